abbrev rmX6_sortOf : Room := { frames := 0, cells := 0, slots := 0, locals := 0 }
set_option maxHeartbeats 4000000 in
set_option maxRecDepth 100000 in
theorem kX6_sortOf (l : Launch) (E : KE) {p0 : Int32} {out : Int32} (h : mX6_sortOf p0 = out) : KI l E yX6_sortOf wsX6_sortOf rmX6_sortOf [.int p0] [] [] out := by
  refine kmetI (T := Int32) (out := out) (wf := (fun (o : Int32) => [])) (rf := (fun (o : Int32) => o)) (cc := cX6_sortOf) (maxL := 1) (ty := .int) (by decide) rfl (Nat.le_of_ble_eq_true rfl) ?_
  intro p e s m args below meth c A Q ls hx hb hml hts hown hE hP hD hS hA hl hret
  have hown : s.vm.findClass RX6 = some m.cls := hown
  have hK := hE.1
  have hl : lv_has ls 1 [(0, .int p0)] := hl
  have hP : va_P (kD E) vwCl [] s.heap := hP
  have hD : va_D A [] := hD
  rw [mX6_sortOf] at h
  refine lv_iload_n hx hb dX6_sortOf_0 rfl (lv_at hl 0 rfl) ?_
  refine lv_bipush (v := (iI 32)) hx hb dX6_sortOf_1 (by decide) ?_
  refine lv_icmp_ne (tgt := 8) hx hb dX6_sortOf_3 (by decide) (fun c_1 => ?_) (fun c_1 => ?_)
  · have h := (if_neg c_1).symm.trans h
    refine lv_iload_n hx hb dX6_sortOf_8 rfl (lv_at hl 0 rfl) ?_
    refine lv_bipush (v := (iI 97)) hx hb dX6_sortOf_9 (by decide) ?_
    refine lv_icmp_lt (tgt := 22) hx hb dX6_sortOf_11 (by decide) (fun c_2 => ?_) (fun c_2 => ?_)
    · have h := (if_pos c_2).symm.trans h
      refine lv_iload_n hx hb dX6_sortOf_22 rfl (lv_at hl 0 rfl) ?_
      refine lv_bipush (v := (iI 48)) hx hb dX6_sortOf_23 (by decide) ?_
      refine lv_icmp_lt (tgt := 38) hx hb dX6_sortOf_25 (by decide) (fun c_3 => ?_) (fun c_3 => ?_)
      · have h := (if_pos c_3).symm.trans h
        refine lv_iconst (v := (iI 3)) hx hb dX6_sortOf_38 (by decide) ?_
        exact hret _ _ (iI 3) _ _ _ h rfl rfl hP hS dX6_sortOf_39
      · have h := (if_neg c_3).symm.trans h
        refine lv_iload_n hx hb dX6_sortOf_28 rfl (lv_at hl 0 rfl) ?_
        refine lv_bipush (v := (iI 57)) hx hb dX6_sortOf_29 (by decide) ?_
        refine lv_icmp_gt (tgt := 38) hx hb dX6_sortOf_31 (by decide) (fun c_4 => ?_) (fun c_4 => ?_)
        · have h := (if_pos c_4).symm.trans h
          refine lv_iconst (v := (iI 3)) hx hb dX6_sortOf_38 (by decide) ?_
          exact hret _ _ (iI 3) _ _ _ h rfl rfl hP hS dX6_sortOf_39
        · have h := (if_neg c_4).symm.trans h
          refine lv_iconst (v := (iI 2)) hx hb dX6_sortOf_34 (by decide) ?_
          refine lv_goto (tgt := 39) hx hb dX6_sortOf_35 (by decide) ?_
          exact hret _ _ (iI 2) _ _ _ h rfl rfl hP hS dX6_sortOf_39
    · have h := (if_neg c_2).symm.trans h
      refine lv_iload_n hx hb dX6_sortOf_14 rfl (lv_at hl 0 rfl) ?_
      refine lv_bipush (v := (iI 122)) hx hb dX6_sortOf_15 (by decide) ?_
      refine lv_icmp_gt (tgt := 22) hx hb dX6_sortOf_17 (by decide) (fun c_5 => ?_) (fun c_5 => ?_)
      · have h := (if_pos c_5).symm.trans h
        refine lv_iload_n hx hb dX6_sortOf_22 rfl (lv_at hl 0 rfl) ?_
        refine lv_bipush (v := (iI 48)) hx hb dX6_sortOf_23 (by decide) ?_
        refine lv_icmp_lt (tgt := 38) hx hb dX6_sortOf_25 (by decide) (fun c_6 => ?_) (fun c_6 => ?_)
        · have h := (if_pos c_6).symm.trans h
          refine lv_iconst (v := (iI 3)) hx hb dX6_sortOf_38 (by decide) ?_
          exact hret _ _ (iI 3) _ _ _ h rfl rfl hP hS dX6_sortOf_39
        · have h := (if_neg c_6).symm.trans h
          refine lv_iload_n hx hb dX6_sortOf_28 rfl (lv_at hl 0 rfl) ?_
          refine lv_bipush (v := (iI 57)) hx hb dX6_sortOf_29 (by decide) ?_
          refine lv_icmp_gt (tgt := 38) hx hb dX6_sortOf_31 (by decide) (fun c_7 => ?_) (fun c_7 => ?_)
          · have h := (if_pos c_7).symm.trans h
            refine lv_iconst (v := (iI 3)) hx hb dX6_sortOf_38 (by decide) ?_
            exact hret _ _ (iI 3) _ _ _ h rfl rfl hP hS dX6_sortOf_39
          · have h := (if_neg c_7).symm.trans h
            refine lv_iconst (v := (iI 2)) hx hb dX6_sortOf_34 (by decide) ?_
            refine lv_goto (tgt := 39) hx hb dX6_sortOf_35 (by decide) ?_
            exact hret _ _ (iI 2) _ _ _ h rfl rfl hP hS dX6_sortOf_39
      · have h := (if_neg c_5).symm.trans h
        refine lv_iconst (v := (iI 1)) hx hb dX6_sortOf_20 (by decide) ?_
        exact hret _ _ (iI 1) _ _ _ h rfl rfl hP hS dX6_sortOf_21
  · have h := (if_pos c_1).symm.trans h
    refine lv_iconst (v := (iI 0)) hx hb dX6_sortOf_6 (by decide) ?_
    exact hret _ _ (iI 0) _ _ _ h rfl rfl hP hS dX6_sortOf_7
abbrev rmX6_next : Room := { frames := 1, cells := 0, slots := 0, locals := 21 }
set_option maxHeartbeats 4000000 in
set_option maxRecDepth 100000 in
theorem kX6_next (l : Launch) (E : KE) {a_t : Nat} {a_t_bytes : Nat} {t_length : Int32} {t_tokenStart : Int32} {t_tokenEnd : Int32} {t_bytes : Nat → Int32} {out : Int32 × Int32} (h : mX6_next t_length t_tokenEnd t_bytes = some out) : KV l E yX6_next wsX6_next rmX6_next [.ref a_t] [oo a_t 6 [.ref a_t_bytes, .int t_length, .int t_tokenStart, .int t_tokenEnd], ar E a_t_bytes 400 t_bytes] [oo a_t 6 [.ref a_t_bytes, .int t_length, .int out.1, .int out.2], ar E a_t_bytes 400 t_bytes] := by
  refine kmetV (T := Int32 × Int32) (out := out) (wf := (fun (o : Int32 × Int32) => [oo a_t 6 [.ref a_t_bytes, .int t_length, .int o.1, .int o.2], ar E a_t_bytes 400 t_bytes])) (cc := cX6_next) (maxL := 2) (by decide) rfl (Nat.le_of_ble_eq_true rfl) ?_
  intro p e s m args below meth c A Q ls hx hb hml hts hown hE hP hD hS hA hl hret
  have hown : s.vm.findClass RX6 = some m.cls := hown
  have hK := hE.1
  have hl : lv_has ls 2 [(0, .ref a_t)] := hl
  have hP : va_P (kD E) vwCl [oo a_t 6 [.ref a_t_bytes, .int t_length, .int t_tokenStart, .int t_tokenEnd], ar E a_t_bytes 400 t_bytes] s.heap := hP
  have hD : va_D A [oo a_t 6 [.ref a_t_bytes, .int t_length, .int t_tokenStart, .int t_tokenEnd], ar E a_t_bytes 400 t_bytes] := hD
  have iX6 : ∀ w ∈ wsX60, w ∈ wsX6_next := by decide +kernel
  have w1 := hts (.fieldLink RX6 22 "GaugeWeekend$Tape" "tokenEnd" "I") (by decide +kernel)
  have w2 := hts (.fieldLink RX6 19 "GaugeWeekend$Tape" "tokenStart" "I") (by decide +kernel)
  have w3 := hts (.fieldLink RX6 15 "GaugeWeekend$Tape" "length" "I") (by decide +kernel)
  have w4 := hts (.fieldLink RX6 11 "GaugeWeekend$Tape" "bytes" "[I") (by decide +kernel)
  have w5 := hts (.initialized RX9) (by decide +kernel)
  have w6 := hts (.static yX9_at) (by decide +kernel)
  have w7 := hts (.methodLink RX6 40 Lib.Math.min.name) (by decide +kernel)
  have w8 := hts (.static Lib.Math.min.name) (by decide +kernel)
  have w9 := hts (.initialized "java/lang/Math") (by decide +kernel)
  have w10 := hts (.code Lib.Math.min.name Lib.Math.min.code 2 (some .int)) (by decide +kernel)
  have L8 : ∀ (t_tokenEnd : Int32) (k49 : Int32 → Option (Int32 × Int32)) (hk49 : ∀ (t_tokenStart : Int32) (H : Heap) (locs : List Loc) (ls : Array Slot) (h : k49 t_tokenStart = some out) (hP : va_P (kD E) vwCl [oo a_t 6 [.ref a_t_bytes, .int t_length, .int t_tokenStart, .int t_tokenEnd], ar E a_t_bytes 400 t_bytes] H) (hD : va_D A [oo a_t 6 [.ref a_t_bytes, .int t_length, .int t_tokenStart, .int t_tokenEnd], ar E a_t_bytes 400 t_bytes]) (hS : va_S A s.heap H locs) (hl : lv_has ls 2 [(0, .ref a_t)]), W p l e rmX6_next s m args below meth c H locs 0 0 Q (F0 m 49 ls [])) (n : Nat) (t_tokenStart : Int32) (H : Heap) (locs : List Loc) (ls : Array Slot) (h : mX6_next_L8 t_length t_bytes k49 n t_tokenStart = some out) (hP : va_P (kD E) vwCl [oo a_t 6 [.ref a_t_bytes, .int t_length, .int t_tokenStart, .int t_tokenEnd], ar E a_t_bytes 400 t_bytes] H) (hD : va_D A [oo a_t 6 [.ref a_t_bytes, .int t_length, .int t_tokenStart, .int t_tokenEnd], ar E a_t_bytes 400 t_bytes]) (hS : va_S A s.heap H locs) (hl : lv_has ls 2 [(0, .ref a_t)]), W p l e rmX6_next s m args below meth c H locs 0 0 Q (F0 m 8 ls []) := by
    intro t_tokenEnd k49 hk49 n
    induction n with
    | zero =>
      intro t_tokenStart H locs ls h
      rw [mX6_next_L8] at h
      cases h
    | succ n ih =>
      intro t_tokenStart H locs ls h hP hD hS hl
      rw [mX6_next_L8] at h
      refine lv_aload_n hx hb dX6_next_8 rfl (lv_at hl 0 rfl) ?_
      refine va_get (D := kD E) (cl := vwCl) (tys := kT E) (ci := 6) (v := .int t_tokenStart) (C := RX6) (T := TX6) (N := 4) hx hb hts iX6 hown hK hP 0 rfl rfl 2 (by decide) w2 (fun _ h9 => h9) rfl dX6_next_9 ?_
      refine lv_aload_n hx hb dX6_next_12 rfl (lv_at hl 0 rfl) ?_
      refine va_get (D := kD E) (cl := vwCl) (tys := kT E) (ci := 6) (v := .int t_length) (C := RX6) (T := TX6) (N := 4) hx hb hts iX6 hown hK hP 0 rfl rfl 1 (by decide) w3 (fun _ h9 => h9) rfl dX6_next_13 ?_
      refine lv_icmp_ge (tgt := 49) hx hb dX6_next_16 (by decide) (fun c_1 => ?_) (fun c_1 => ?_)
      · have h := (if_pos c_1).symm.trans h
        exact hk49 t_tokenStart _ _ _ h hP hD hS (lv_sub hl [0] rfl)
      · have h := (if_neg c_1).symm.trans h
        refine lv_aload_n hx hb dX6_next_19 rfl (lv_at hl 0 rfl) ?_
        refine va_get (D := kD E) (cl := vwCl) (tys := kT E) (ci := 6) (v := .ref a_t_bytes) (C := RX6) (T := TX6) (N := 4) hx hb hts iX6 hown hK hP 0 rfl rfl 0 (by decide) w4 (fun _ h9 => h9) rfl dX6_next_20 ?_
        refine lv_aload_n hx hb dX6_next_23 rfl (lv_at hl 0 rfl) ?_
        refine va_get (D := kD E) (cl := vwCl) (tys := kT E) (ci := 6) (v := .int t_tokenStart) (C := RX6) (T := TX6) (N := 4) hx hb hts iX6 hown hK hP 0 rfl rfl 2 (by decide) w2 (fun _ h9 => h9) rfl dX6_next_24 ?_
        refine kciN (l := l) (E := E) (wc := [ar E a_t_bytes 400 t_bytes]) (w1 := [ar E a_t_bytes 400 t_bytes]) (w' := [oo a_t 6 [.ref a_t_bytes, .int t_length, .int t_tokenStart, .int t_tokenEnd], ar E a_t_bytes 400 t_bytes]) (ads := [a_t_bytes]) (r := (mX9_at 400 t_tokenStart t_bytes)) (As := [.ref a_t_bytes, .int t_tokenStart]) (rest := []) (kX9_at l E (hn_q0 := (Nat.le_of_ble_eq_true rfl)) rfl) ⟨hx, hb, hml, hown, hts⟩ ⟨va_cnB 2 hts gX6_next_X9_at_n32 rfl rfl rfl (nwm_16 hE.2.1) w5 (by decide +kernel) ⟨by decide, by decide⟩, w6, trivial⟩ hE hP hD hS hA [1] (by decide) rfl rfl rfl rfl  rfl hl.1 rfl (Nat.le_of_ble_eq_true rfl) dX6_next_27 ⟨Nat.zero_le _, Nat.zero_le _⟩ (fun H locs hP hD hS => ?_)
        refine kciS (l := l) (E := E) (wc := []) (w1 := []) (w' := [oo a_t 6 [.ref a_t_bytes, .int t_length, .int t_tokenStart, .int t_tokenEnd], ar E a_t_bytes 400 t_bytes]) (ads := []) (r := (mX6_sortOf (mX9_at 400 t_tokenStart t_bytes))) (As := [.int (mX9_at 400 t_tokenStart t_bytes)]) (rest := []) (kX6_sortOf l E rfl) ⟨hx, hb, hml, hown, hts⟩ (va_cwS 1 hts gX6_next_X6_sortOf rfl rfl rfl (by decide +kernel) ⟨by decide, by decide⟩) hE hP hD hS hA [] (by decide) rfl rfl rfl rfl  rfl hl.1 rfl (Nat.le_of_ble_eq_true rfl) dX6_next_30 ⟨Nat.zero_le _, Nat.zero_le _⟩ (fun H locs hP hD hS => ?_)
        refine lv_if_ne (tgt := 49) hx hb dX6_next_33 (by decide) (fun c_4 => ?_) (fun c_4 => ?_)
        · have h := (if_neg c_4).symm.trans h
          exact hk49 t_tokenStart _ _ _ h hP hD hS (lv_sub hl [0] rfl)
        · have h := (if_pos c_4).symm.trans h
          refine lv_aload_n hx hb dX6_next_36 rfl (lv_at hl 0 rfl) ?_
          refine lv_dup hx hb dX6_next_37 rfl ?_
          refine va_get (D := kD E) (cl := vwCl) (tys := kT E) (ci := 6) (v := .int t_tokenStart) (C := RX6) (T := TX6) (N := 4) hx hb hts iX6 hown hK hP 0 rfl rfl 2 (by decide) w2 (fun _ h9 => h9) rfl dX6_next_38 ?_
          refine lv_iconst (v := (iI 1)) hx hb dX6_next_41 (by decide) ?_
          refine lv_iadd hx hb dX6_next_42 ?_
          refine kput (w' := [oo a_t 6 [.ref a_t_bytes, .int t_length, .int (t_tokenStart + (iI 1)), .int t_tokenEnd], ar E a_t_bytes 400 t_bytes]) (E := E) (ci := 6) (v := .int (t_tokenStart + (iI 1))) (ty := .int) (C := RX6) (T := TX6) (N := 4) hx hb hts iX6 tyX6 tyX6_ok nmX6 hown hK hP hD hS 0 rfl rfl 2 (by decide) w2 (fun _ h9 => h9) rfl (tyX6_ok 2 (by decide)) rfl rfl (Nat.le_of_ble_eq_true rfl) rfl dX6_next_43 (fun H locs hP hD hS => ?_)
          refine lv_goto (tgt := 8) hx hb dX6_next_46 (by decide) ?_
          exact ih (t_tokenStart + (iI 1)) _ _ _ h hP hD hS (lv_sub hl [0] rfl)
  have L81 : ∀ (v1 : Int32) (t_tokenStart : Int32) (n : Nat) (t_tokenEnd : Int32) (H : Heap) (locs : List Loc) (ls : Array Slot) (h : mX6_next_L81 t_length t_tokenStart t_bytes v1 n t_tokenEnd = some out) (hP : va_P (kD E) vwCl [oo a_t 6 [.ref a_t_bytes, .int t_length, .int t_tokenStart, .int t_tokenEnd], ar E a_t_bytes 400 t_bytes] H) (hD : va_D A [oo a_t 6 [.ref a_t_bytes, .int t_length, .int t_tokenStart, .int t_tokenEnd], ar E a_t_bytes 400 t_bytes]) (hS : va_S A s.heap H locs) (hl : lv_has ls 2 [(0, .ref a_t), (1, .int v1)]), W p l e rmX6_next s m args below meth c H locs 0 0 Q (F0 m 81 ls []) := by
    intro v1 t_tokenStart n
    induction n with
    | zero =>
      intro t_tokenEnd H locs ls h
      rw [mX6_next_L81] at h
      cases h
    | succ n ih =>
      intro t_tokenEnd H locs ls h hP hD hS hl
      rw [mX6_next_L81] at h
      refine lv_iload_n hx hb dX6_next_81 rfl (lv_at hl 1 rfl) ?_
      refine lv_iconst (v := (iI 3)) hx hb dX6_next_82 (by decide) ?_
      refine lv_icmp_eq (tgt := 128) hx hb dX6_next_83 (by decide) (fun c_8 => ?_) (fun c_8 => ?_)
      · have h := (if_pos c_8).symm.trans h
        exact hret _ (t_tokenStart, t_tokenEnd) _ _ _ (Option.some.inj h) hP hS dX6_next_128
      · have h := (if_neg c_8).symm.trans h
        refine lv_aload_n hx hb dX6_next_86 rfl (lv_at hl 0 rfl) ?_
        refine va_get (D := kD E) (cl := vwCl) (tys := kT E) (ci := 6) (v := .int t_tokenEnd) (C := RX6) (T := TX6) (N := 4) hx hb hts iX6 hown hK hP 0 rfl rfl 3 (by decide) w1 (fun _ h9 => h9) rfl dX6_next_87 ?_
        refine lv_aload_n hx hb dX6_next_90 rfl (lv_at hl 0 rfl) ?_
        refine va_get (D := kD E) (cl := vwCl) (tys := kT E) (ci := 6) (v := .int t_length) (C := RX6) (T := TX6) (N := 4) hx hb hts iX6 hown hK hP 0 rfl rfl 1 (by decide) w3 (fun _ h9 => h9) rfl dX6_next_91 ?_
        refine lv_icmp_ge (tgt := 128) hx hb dX6_next_94 (by decide) (fun c_9 => ?_) (fun c_9 => ?_)
        · have h := (if_pos c_9).symm.trans h
          exact hret _ (t_tokenStart, t_tokenEnd) _ _ _ (Option.some.inj h) hP hS dX6_next_128
        · have h := (if_neg c_9).symm.trans h
          refine lv_aload_n hx hb dX6_next_97 rfl (lv_at hl 0 rfl) ?_
          refine va_get (D := kD E) (cl := vwCl) (tys := kT E) (ci := 6) (v := .ref a_t_bytes) (C := RX6) (T := TX6) (N := 4) hx hb hts iX6 hown hK hP 0 rfl rfl 0 (by decide) w4 (fun _ h9 => h9) rfl dX6_next_98 ?_
          refine lv_aload_n hx hb dX6_next_101 rfl (lv_at hl 0 rfl) ?_
          refine va_get (D := kD E) (cl := vwCl) (tys := kT E) (ci := 6) (v := .int t_tokenEnd) (C := RX6) (T := TX6) (N := 4) hx hb hts iX6 hown hK hP 0 rfl rfl 3 (by decide) w1 (fun _ h9 => h9) rfl dX6_next_102 ?_
          refine kciN (l := l) (E := E) (wc := [ar E a_t_bytes 400 t_bytes]) (w1 := [ar E a_t_bytes 400 t_bytes]) (w' := [oo a_t 6 [.ref a_t_bytes, .int t_length, .int t_tokenStart, .int t_tokenEnd], ar E a_t_bytes 400 t_bytes]) (ads := [a_t_bytes]) (r := (mX9_at 400 t_tokenEnd t_bytes)) (As := [.ref a_t_bytes, .int t_tokenEnd]) (rest := []) (kX9_at l E (hn_q0 := (Nat.le_of_ble_eq_true rfl)) rfl) ⟨hx, hb, hml, hown, hts⟩ ⟨va_cnB 2 hts gX6_next_X9_at_n32 rfl rfl rfl (nwm_16 hE.2.1) w5 (by decide +kernel) ⟨by decide, by decide⟩, w6, trivial⟩ hE hP hD hS hA [1] (by decide) rfl rfl rfl rfl  rfl hl.1 rfl (Nat.le_of_ble_eq_true rfl) dX6_next_105 ⟨Nat.zero_le _, Nat.zero_le _⟩ (fun H locs hP hD hS => ?_)
          refine kciS (l := l) (E := E) (wc := []) (w1 := []) (w' := [oo a_t 6 [.ref a_t_bytes, .int t_length, .int t_tokenStart, .int t_tokenEnd], ar E a_t_bytes 400 t_bytes]) (ads := []) (r := (mX6_sortOf (mX9_at 400 t_tokenEnd t_bytes))) (As := [.int (mX9_at 400 t_tokenEnd t_bytes)]) (rest := []) (kX6_sortOf l E rfl) ⟨hx, hb, hml, hown, hts⟩ (va_cwS 1 hts gX6_next_X6_sortOf rfl rfl rfl (by decide +kernel) ⟨by decide, by decide⟩) hE hP hD hS hA [] (by decide) rfl rfl rfl rfl  rfl hl.1 rfl (Nat.le_of_ble_eq_true rfl) dX6_next_108 ⟨Nat.zero_le _, Nat.zero_le _⟩ (fun H locs hP hD hS => ?_)
          refine lv_iload_n hx hb dX6_next_111 rfl (lv_at hl 1 rfl) ?_
          refine lv_icmp_ne (tgt := 128) hx hb dX6_next_112 (by decide) (fun c_12 => ?_) (fun c_12 => ?_)
          · have h := (if_neg c_12).symm.trans h
            exact hret _ (t_tokenStart, t_tokenEnd) _ _ _ (Option.some.inj h) hP hS dX6_next_128
          · have h := (if_pos c_12).symm.trans h
            refine lv_aload_n hx hb dX6_next_115 rfl (lv_at hl 0 rfl) ?_
            refine lv_dup hx hb dX6_next_116 rfl ?_
            refine va_get (D := kD E) (cl := vwCl) (tys := kT E) (ci := 6) (v := .int t_tokenEnd) (C := RX6) (T := TX6) (N := 4) hx hb hts iX6 hown hK hP 0 rfl rfl 3 (by decide) w1 (fun _ h9 => h9) rfl dX6_next_117 ?_
            refine lv_iconst (v := (iI 1)) hx hb dX6_next_120 (by decide) ?_
            refine lv_iadd hx hb dX6_next_121 ?_
            refine kput (w' := [oo a_t 6 [.ref a_t_bytes, .int t_length, .int t_tokenStart, .int (t_tokenEnd + (iI 1))], ar E a_t_bytes 400 t_bytes]) (E := E) (ci := 6) (v := .int (t_tokenEnd + (iI 1))) (ty := .int) (C := RX6) (T := TX6) (N := 4) hx hb hts iX6 tyX6 tyX6_ok nmX6 hown hK hP hD hS 0 rfl rfl 3 (by decide) w1 (fun _ h9 => h9) rfl (tyX6_ok 3 (by decide)) rfl rfl (Nat.le_of_ble_eq_true rfl) rfl dX6_next_122 (fun H locs hP hD hS => ?_)
            refine lv_goto (tgt := 81) hx hb dX6_next_125 (by decide) ?_
            exact ih (t_tokenEnd + (iI 1)) _ _ _ h hP hD hS (lv_sub hl [0, 1] rfl)
  rw [mX6_next] at h
  refine lv_aload_n hx hb dX6_next_0 rfl (lv_at hl 0 rfl) ?_
  refine lv_aload_n hx hb dX6_next_1 rfl (lv_at hl 0 rfl) ?_
  refine va_get (D := kD E) (cl := vwCl) (tys := kT E) (ci := 6) (v := .int t_tokenEnd) (C := RX6) (T := TX6) (N := 4) hx hb hts iX6 hown hK hP 0 rfl rfl 3 (by decide) w1 (fun _ h9 => h9) rfl dX6_next_2 ?_
  refine kput (w' := [oo a_t 6 [.ref a_t_bytes, .int t_length, .int t_tokenEnd, .int t_tokenEnd], ar E a_t_bytes 400 t_bytes]) (E := E) (ci := 6) (v := .int t_tokenEnd) (ty := .int) (C := RX6) (T := TX6) (N := 4) hx hb hts iX6 tyX6 tyX6_ok nmX6 hown hK hP hD hS 0 rfl rfl 2 (by decide) w2 (fun _ h9 => h9) rfl (tyX6_ok 2 (by decide)) rfl rfl (Nat.le_of_ble_eq_true rfl) rfl dX6_next_5 (fun H locs hP hD hS => ?_)
  refine L8 t_tokenEnd _ ?_ _ t_tokenEnd _ _ _ h hP hD hS (lv_sub hl [0] rfl)
  · intro t_tokenStart_5 H locs ls h hP hD hS hl
    refine lv_aload_n hx hb dX6_next_49 rfl (lv_at hl 0 rfl) ?_
    refine lv_aload_n hx hb dX6_next_50 rfl (lv_at hl 0 rfl) ?_
    refine va_get (D := kD E) (cl := vwCl) (tys := kT E) (ci := 6) (v := .int t_tokenStart_5) (C := RX6) (T := TX6) (N := 4) hx hb hts iX6 hown hK hP 0 rfl rfl 2 (by decide) w2 (fun _ h9 => h9) rfl dX6_next_51 ?_
    refine lv_iconst (v := (iI 1)) hx hb dX6_next_54 (by decide) ?_
    refine lv_iadd hx hb dX6_next_55 ?_
    refine lv_aload_n hx hb dX6_next_56 rfl (lv_at hl 0 rfl) ?_
    refine va_get (D := kD E) (cl := vwCl) (tys := kT E) (ci := 6) (v := .int t_length) (C := RX6) (T := TX6) (N := 4) hx hb hts iX6 hown hK hP 0 rfl rfl 1 (by decide) w3 (fun _ h9 => h9) rfl dX6_next_57 ?_
    refine va_mmin hx hb (hml.trans hl.1.symm) hown w7 w8 w9 w10 (Nat.le_of_ble_eq_true rfl) (Nat.le_of_ble_eq_true rfl) (Nat.zero_le _) (Nat.zero_le _) dX6_next_60 ?_
    refine kput (w' := [oo a_t 6 [.ref a_t_bytes, .int t_length, .int t_tokenStart_5, .int (if t_length < (t_tokenStart_5 + (iI 1)) then t_length else (t_tokenStart_5 + (iI 1)))], ar E a_t_bytes 400 t_bytes]) (E := E) (ci := 6) (v := .int (if t_length < (t_tokenStart_5 + (iI 1)) then t_length else (t_tokenStart_5 + (iI 1)))) (ty := .int) (C := RX6) (T := TX6) (N := 4) hx hb hts iX6 tyX6 tyX6_ok nmX6 hown hK hP hD hS 0 rfl rfl 3 (by decide) w1 (fun _ h9 => h9) rfl (tyX6_ok 3 (by decide)) rfl rfl (Nat.le_of_ble_eq_true rfl) rfl dX6_next_63 (fun H locs hP hD hS => ?_)
    refine lv_aload_n hx hb dX6_next_66 rfl (lv_at hl 0 rfl) ?_
    refine va_get (D := kD E) (cl := vwCl) (tys := kT E) (ci := 6) (v := .ref a_t_bytes) (C := RX6) (T := TX6) (N := 4) hx hb hts iX6 hown hK hP 0 rfl rfl 0 (by decide) w4 (fun _ h9 => h9) rfl dX6_next_67 ?_
    refine lv_aload_n hx hb dX6_next_70 rfl (lv_at hl 0 rfl) ?_
    refine va_get (D := kD E) (cl := vwCl) (tys := kT E) (ci := 6) (v := .int t_tokenStart_5) (C := RX6) (T := TX6) (N := 4) hx hb hts iX6 hown hK hP 0 rfl rfl 2 (by decide) w2 (fun _ h9 => h9) rfl dX6_next_71 ?_
    refine kciN (l := l) (E := E) (wc := [ar E a_t_bytes 400 t_bytes]) (w1 := [ar E a_t_bytes 400 t_bytes]) (w' := [oo a_t 6 [.ref a_t_bytes, .int t_length, .int t_tokenStart_5, .int (if t_length < (t_tokenStart_5 + (iI 1)) then t_length else (t_tokenStart_5 + (iI 1)))], ar E a_t_bytes 400 t_bytes]) (ads := [a_t_bytes]) (r := (mX9_at 400 t_tokenStart_5 t_bytes)) (As := [.ref a_t_bytes, .int t_tokenStart_5]) (rest := []) (kX9_at l E (hn_q0 := (Nat.le_of_ble_eq_true rfl)) rfl) ⟨hx, hb, hml, hown, hts⟩ ⟨va_cnB 2 hts gX6_next_X9_at_n32 rfl rfl rfl (nwm_16 hE.2.1) w5 (by decide +kernel) ⟨by decide, by decide⟩, w6, trivial⟩ hE hP hD hS hA [1] (by decide) rfl rfl rfl rfl  rfl hl.1 rfl (Nat.le_of_ble_eq_true rfl) dX6_next_74 ⟨Nat.zero_le _, Nat.zero_le _⟩ (fun H locs hP hD hS => ?_)
    refine kciS (l := l) (E := E) (wc := []) (w1 := []) (w' := [oo a_t 6 [.ref a_t_bytes, .int t_length, .int t_tokenStart_5, .int (if t_length < (t_tokenStart_5 + (iI 1)) then t_length else (t_tokenStart_5 + (iI 1)))], ar E a_t_bytes 400 t_bytes]) (ads := []) (r := (mX6_sortOf (mX9_at 400 t_tokenStart_5 t_bytes))) (As := [.int (mX9_at 400 t_tokenStart_5 t_bytes)]) (rest := []) (kX6_sortOf l E rfl) ⟨hx, hb, hml, hown, hts⟩ (va_cwS 1 hts gX6_next_X6_sortOf rfl rfl rfl (by decide +kernel) ⟨by decide, by decide⟩) hE hP hD hS hA [] (by decide) rfl rfl rfl rfl  rfl hl.1 rfl (Nat.le_of_ble_eq_true rfl) dX6_next_77 ⟨Nat.zero_le _, Nat.zero_le _⟩ (fun H locs hP hD hS => ?_)
    refine lv_istore_n (lv' := [(1, .int (mX6_sortOf (mX9_at 400 t_tokenStart_5 t_bytes))), (0, .ref a_t)]) hx hb dX6_next_80 rfl hl (by decide) rfl (fun ls hl => ?_)
    exact L81 (mX6_sortOf (mX9_at 400 t_tokenStart_5 t_bytes)) t_tokenStart_5 _ (if t_length < (t_tokenStart_5 + (iI 1)) then t_length else (t_tokenStart_5 + (iI 1))) _ _ _ h hP hD hS (lv_sub hl [1, 0] rfl)
abbrev rmX6_rewind : Room := { frames := 2, cells := 0, slots := 0, locals := 42 }
set_option maxHeartbeats 4000000 in
set_option maxRecDepth 100000 in
theorem kX6_rewind (l : Launch) (E : KE) {a_t : Nat} {a_t_bytes : Nat} {t_length : Int32} {t_tokenStart : Int32} {t_tokenEnd : Int32} {t_bytes : Nat → Int32} {out : Int32 × Int32} (h : mX6_rewind t_length t_bytes = some out) : KV l E yX6_rewind wsX6_rewind rmX6_rewind [.ref a_t] [oo a_t 6 [.ref a_t_bytes, .int t_length, .int t_tokenStart, .int t_tokenEnd], ar E a_t_bytes 400 t_bytes] [oo a_t 6 [.ref a_t_bytes, .int t_length, .int out.1, .int out.2], ar E a_t_bytes 400 t_bytes] := by
  refine kmetV (T := Int32 × Int32) (out := out) (wf := (fun (o : Int32 × Int32) => [oo a_t 6 [.ref a_t_bytes, .int t_length, .int o.1, .int o.2], ar E a_t_bytes 400 t_bytes])) (cc := cX6_rewind) (maxL := 1) (by decide) rfl (Nat.le_of_ble_eq_true rfl) ?_
  intro p e s m args below meth c A Q ls hx hb hml hts hown hE hP hD hS hA hl hret
  have hown : s.vm.findClass RX6 = some m.cls := hown
  have hK := hE.1
  have hl : lv_has ls 1 [(0, .ref a_t)] := hl
  have hP : va_P (kD E) vwCl [oo a_t 6 [.ref a_t_bytes, .int t_length, .int t_tokenStart, .int t_tokenEnd], ar E a_t_bytes 400 t_bytes] s.heap := hP
  have hD : va_D A [oo a_t 6 [.ref a_t_bytes, .int t_length, .int t_tokenStart, .int t_tokenEnd], ar E a_t_bytes 400 t_bytes] := hD
  have iX6 : ∀ w ∈ wsX60, w ∈ wsX6_rewind := by decide +kernel
  have w1 := hts (.fieldLink RX6 22 "GaugeWeekend$Tape" "tokenEnd" "I") (by decide +kernel)
  rw [mX6_rewind] at h
  refine lv_aload_n hx hb dX6_rewind_0 rfl (lv_at hl 0 rfl) ?_
  refine lv_iconst (v := (iI 0)) hx hb dX6_rewind_1 (by decide) ?_
  refine kput (w' := [oo a_t 6 [.ref a_t_bytes, .int t_length, .int t_tokenStart, .int (iI 0)], ar E a_t_bytes 400 t_bytes]) (E := E) (ci := 6) (v := .int (iI 0)) (ty := .int) (C := RX6) (T := TX6) (N := 4) hx hb hts iX6 tyX6 tyX6_ok nmX6 hown hK hP hD hS 0 rfl rfl 3 (by decide) w1 (fun _ h9 => h9) rfl (tyX6_ok 3 (by decide)) rfl rfl (Nat.le_of_ble_eq_true rfl) rfl dX6_rewind_2 (fun H locs hP hD hS => ?_)
  refine lv_aload_n hx hb dX6_rewind_5 rfl (lv_at hl 0 rfl) ?_
  obtain ⟨o1, hc1, h⟩ := kbind h
  refine kcvV (l := l) (E := E) (wc := [oo a_t 6 [.ref a_t_bytes, .int t_length, .int t_tokenStart, .int (iI 0)], ar E a_t_bytes 400 t_bytes]) (w1 := [oo a_t 6 [.ref a_t_bytes, .int t_length, .int o1.1, .int o1.2], ar E a_t_bytes 400 t_bytes]) (w' := [oo a_t 6 [.ref a_t_bytes, .int t_length, .int o1.1, .int o1.2], ar E a_t_bytes 400 t_bytes]) (ads := [a_t, a_t_bytes]) (As := []) (rest := []) (kX6_next l E hc1) ⟨hx, hb, hml, hown, hts⟩ (cwV 0 hts gX6_rewind_X6_next rfl rfl rfl (by decide +kernel) ⟨by decide, by decide⟩) hE hP hD hS hA [0, 1] (by decide) rfl rfl rfl rfl rfl rfl rfl rfl hl.1 rfl (Nat.le_of_ble_eq_true rfl) dX6_rewind_6 ⟨Nat.zero_le _, Nat.zero_le _⟩ (fun H locs hP hD hS => ?_)
  exact hret _ (o1.1, o1.2) _ _ _ (Option.some.inj h) hP hS dX6_rewind_9
abbrev rmX6_isAtEnd : Room := { frames := 0, cells := 0, slots := 0, locals := 0 }
set_option maxHeartbeats 4000000 in
set_option maxRecDepth 100000 in
theorem kX6_isAtEnd (l : Launch) (E : KE) {a_t : Nat} {a_t_bytes : Nat} {t_length : Int32} {t_tokenStart : Int32} {t_tokenEnd : Int32} {out : Int32} (h : mX6_isAtEnd t_length t_tokenStart = out) : KI l E yX6_isAtEnd wsX6_isAtEnd rmX6_isAtEnd [.ref a_t] [oo a_t 6 [.ref a_t_bytes, .int t_length, .int t_tokenStart, .int t_tokenEnd]] [oo a_t 6 [.ref a_t_bytes, .int t_length, .int t_tokenStart, .int t_tokenEnd]] out := by
  refine kmetI (T := Int32) (out := out) (wf := (fun (o : Int32) => [oo a_t 6 [.ref a_t_bytes, .int t_length, .int t_tokenStart, .int t_tokenEnd]])) (rf := (fun (o : Int32) => o)) (cc := cX6_isAtEnd) (maxL := 1) (ty := .boolean) (by decide) rfl (Nat.le_of_ble_eq_true rfl) ?_
  intro p e s m args below meth c A Q ls hx hb hml hts hown hE hP hD hS hA hl hret
  have hown : s.vm.findClass RX6 = some m.cls := hown
  have hK := hE.1
  have hl : lv_has ls 1 [(0, .ref a_t)] := hl
  have hP : va_P (kD E) vwCl [oo a_t 6 [.ref a_t_bytes, .int t_length, .int t_tokenStart, .int t_tokenEnd]] s.heap := hP
  have hD : va_D A [oo a_t 6 [.ref a_t_bytes, .int t_length, .int t_tokenStart, .int t_tokenEnd]] := hD
  have iX6 : ∀ w ∈ wsX60, w ∈ wsX6_isAtEnd := by decide +kernel
  have w1 := hts (.fieldLink RX6 19 "GaugeWeekend$Tape" "tokenStart" "I") (by decide +kernel)
  have w2 := hts (.fieldLink RX6 15 "GaugeWeekend$Tape" "length" "I") (by decide +kernel)
  rw [mX6_isAtEnd] at h
  refine lv_aload_n hx hb dX6_isAtEnd_0 rfl (lv_at hl 0 rfl) ?_
  refine va_get (D := kD E) (cl := vwCl) (tys := kT E) (ci := 6) (v := .int t_tokenStart) (C := RX6) (T := TX6) (N := 4) hx hb hts iX6 hown hK hP 0 rfl rfl 2 (by decide) w1 (fun _ h9 => h9) rfl dX6_isAtEnd_1 ?_
  refine lv_aload_n hx hb dX6_isAtEnd_4 rfl (lv_at hl 0 rfl) ?_
  refine va_get (D := kD E) (cl := vwCl) (tys := kT E) (ci := 6) (v := .int t_length) (C := RX6) (T := TX6) (N := 4) hx hb hts iX6 hown hK hP 0 rfl rfl 1 (by decide) w2 (fun _ h9 => h9) rfl dX6_isAtEnd_5 ?_
  refine lv_icmp_lt (tgt := 15) hx hb dX6_isAtEnd_8 (by decide) (fun c_1 => ?_) (fun c_1 => ?_)
  · have h := (if_pos c_1).symm.trans h
    refine lv_iconst (v := (iI 0)) hx hb dX6_isAtEnd_15 (by decide) ?_
    exact hret _ _ (iI 0) _ _ _ h rfl rfl hP hS dX6_isAtEnd_16
  · have h := (if_neg c_1).symm.trans h
    refine lv_iconst (v := (iI 1)) hx hb dX6_isAtEnd_11 (by decide) ?_
    refine lv_goto (tgt := 16) hx hb dX6_isAtEnd_12 (by decide) ?_
    exact hret _ _ (iI 1) _ _ _ h rfl rfl hP hS dX6_isAtEnd_16
abbrev rmX6_isAtWord : Room := { frames := 4, cells := 0, slots := 0, locals := 87 }
set_option maxHeartbeats 4000000 in
set_option maxRecDepth 100000 in
theorem kX6_isAtWord (l : Launch) (E : KE) {a_t : Nat} {a_t_bytes : Nat} {p1 : Nat} (hp1 : p1 < 6) {t_length : Int32} {t_tokenStart : Int32} {t_tokenEnd : Int32} {t_bytes : Nat → Int32} {out : Int32} (h : mX6_isAtWord p1 t_tokenStart t_tokenEnd t_bytes = some out) : KI l E yX6_isAtWord wsX6_isAtWord rmX6_isAtWord [.ref a_t, .ref (E.2.2.1 p1)] [oo a_t 6 [.ref a_t_bytes, .int t_length, .int t_tokenStart, .int t_tokenEnd], ar E a_t_bytes 400 t_bytes] [oo a_t 6 [.ref a_t_bytes, .int t_length, .int t_tokenStart, .int t_tokenEnd], ar E a_t_bytes 400 t_bytes] out := by
  refine kmetI (T := Int32) (out := out) (wf := (fun (o : Int32) => [oo a_t 6 [.ref a_t_bytes, .int t_length, .int t_tokenStart, .int t_tokenEnd], ar E a_t_bytes 400 t_bytes])) (rf := (fun (o : Int32) => o)) (cc := cX6_isAtWord) (maxL := 4) (ty := .boolean) (by decide) rfl (Nat.le_of_ble_eq_true rfl) ?_
  intro p e s m args below meth c A Q ls hx hb hml hts hown hE hP hD hS hA hl hret
  have hown : s.vm.findClass RX6 = some m.cls := hown
  have hK := hE.1
  have hl : lv_has ls 4 [(0, .ref a_t), (1, .ref (E.2.2.1 p1))] := hl
  have hP : va_P (kD E) vwCl [oo a_t 6 [.ref a_t_bytes, .int t_length, .int t_tokenStart, .int t_tokenEnd], ar E a_t_bytes 400 t_bytes] s.heap := hP
  have hD : va_D A [oo a_t 6 [.ref a_t_bytes, .int t_length, .int t_tokenStart, .int t_tokenEnd], ar E a_t_bytes 400 t_bytes] := hD
  have iX6 : ∀ w ∈ wsX60, w ∈ wsX6_isAtWord := by decide +kernel
  have w1 := hts (.fieldLink RX6 22 "GaugeWeekend$Tape" "tokenEnd" "I") (by decide +kernel)
  have w2 := hts (.fieldLink RX6 19 "GaugeWeekend$Tape" "tokenStart" "I") (by decide +kernel)
  have w3 := hts (.fieldLink RX6 11 "GaugeWeekend$Tape" "bytes" "[I") (by decide +kernel)
  have w4 := hts (.initialized RX9) (by decide +kernel)
  have w5 := hts (.static yX9_at) (by decide +kernel)
  have L22 : ∀ (v2 : Int32) (n : Nat) (v3 : Int32) (H : Heap) (locs : List Loc) (ls : Array Slot) (h : mX6_isAtWord_L22 p1 t_tokenStart t_bytes v2 n v3 = some out) (hP : va_P (kD E) vwCl [oo a_t 6 [.ref a_t_bytes, .int t_length, .int t_tokenStart, .int t_tokenEnd], ar E a_t_bytes 400 t_bytes] H) (hD : va_D A [oo a_t 6 [.ref a_t_bytes, .int t_length, .int t_tokenStart, .int t_tokenEnd], ar E a_t_bytes 400 t_bytes]) (hS : va_S A s.heap H locs) (hl : lv_has ls 4 [(0, .ref a_t), (1, .ref (E.2.2.1 p1)), (2, .int v2), (3, .int v3)]), W p l e rmX6_isAtWord s m args below meth c H locs 0 0 Q (F0 m 22 ls []) := by
    intro v2 n
    induction n with
    | zero =>
      intro v3 H locs ls h
      rw [mX6_isAtWord_L22] at h
      cases h
    | succ n ih =>
      intro v3 H locs ls h hP hD hS hl
      rw [mX6_isAtWord_L22] at h
      refine lv_iload_n hx hb dX6_isAtWord_22 rfl (lv_at hl 3 rfl) ?_
      refine lv_iload_n hx hb dX6_isAtWord_23 rfl (lv_at hl 2 rfl) ?_
      refine lv_icmp_ge (tgt := 64) hx hb dX6_isAtWord_24 (by decide) (fun c_2 => ?_) (fun c_2 => ?_)
      · have h := (if_pos c_2).symm.trans h
        refine lv_iconst (v := (iI 1)) hx hb dX6_isAtWord_64 (by decide) ?_
        exact hret _ _ (iI 1) _ _ _ (Option.some.inj h) rfl rfl hP hS dX6_isAtWord_65
      · have h := (if_neg c_2).symm.trans h
        refine lv_iload_n hx hb dX6_isAtWord_27 rfl (lv_at hl 3 rfl) ?_
        refine lv_aload_n hx hb dX6_isAtWord_28 rfl (lv_at hl 1 rfl) ?_
        refine kciVs (As := []) (rest := [.int v3]) (i := p1) hp1 (kJ0_length_8abf5 l E hp1) ⟨hx, hb, hml, hown, hts⟩ (cwV 0 hts gX6_isAtWord_J0_length_8abf5 rfl rfl rfl (by decide +kernel) ⟨by decide, by decide⟩) hE hP hD hS hA rfl hl.1 rfl (Nat.le_of_ble_eq_true rfl) dX6_isAtWord_29 ⟨Nat.zero_le _, Nat.zero_le _⟩ (fun H locs hP hD hS => ?_)
        refine lv_icmp_ge (tgt := 64) hx hb dX6_isAtWord_32 (by decide) (fun c_3 => ?_) (fun c_3 => ?_)
        · have h := (if_pos c_3).symm.trans h
          refine lv_iconst (v := (iI 1)) hx hb dX6_isAtWord_64 (by decide) ?_
          exact hret _ _ (iI 1) _ _ _ (Option.some.inj h) rfl rfl hP hS dX6_isAtWord_65
        · have h := (if_neg c_3).symm.trans h
          refine lv_aload_n hx hb dX6_isAtWord_35 rfl (lv_at hl 0 rfl) ?_
          refine va_get (D := kD E) (cl := vwCl) (tys := kT E) (ci := 6) (v := .ref a_t_bytes) (C := RX6) (T := TX6) (N := 4) hx hb hts iX6 hown hK hP 0 rfl rfl 0 (by decide) w3 (fun _ h9 => h9) rfl dX6_isAtWord_36 ?_
          refine lv_aload_n hx hb dX6_isAtWord_39 rfl (lv_at hl 0 rfl) ?_
          refine va_get (D := kD E) (cl := vwCl) (tys := kT E) (ci := 6) (v := .int t_tokenStart) (C := RX6) (T := TX6) (N := 4) hx hb hts iX6 hown hK hP 0 rfl rfl 2 (by decide) w2 (fun _ h9 => h9) rfl dX6_isAtWord_40 ?_
          refine lv_iload_n hx hb dX6_isAtWord_43 rfl (lv_at hl 3 rfl) ?_
          refine lv_iadd hx hb dX6_isAtWord_44 ?_
          refine kciN (l := l) (E := E) (wc := [ar E a_t_bytes 400 t_bytes]) (w1 := [ar E a_t_bytes 400 t_bytes]) (w' := [oo a_t 6 [.ref a_t_bytes, .int t_length, .int t_tokenStart, .int t_tokenEnd], ar E a_t_bytes 400 t_bytes]) (ads := [a_t_bytes]) (r := (mX9_at 400 (t_tokenStart + v3) t_bytes)) (As := [.ref a_t_bytes, .int (t_tokenStart + v3)]) (rest := []) (kX9_at l E (hn_q0 := (Nat.le_of_ble_eq_true rfl)) rfl) ⟨hx, hb, hml, hown, hts⟩ ⟨va_cnB 2 hts gX6_isAtWord_X9_at_n32 rfl rfl rfl (nwm_16 hE.2.1) w4 (by decide +kernel) ⟨by decide, by decide⟩, w5, trivial⟩ hE hP hD hS hA [1] (by decide) rfl rfl rfl rfl  rfl hl.1 rfl (Nat.le_of_ble_eq_true rfl) dX6_isAtWord_45 ⟨Nat.zero_le _, Nat.zero_le _⟩ (fun H locs hP hD hS => ?_)
          refine lv_aload_n hx hb dX6_isAtWord_48 rfl (lv_at hl 1 rfl) ?_
          refine lv_iload_n hx hb dX6_isAtWord_49 rfl (lv_at hl 3 rfl) ?_
          by_cases c_5 : v3 < 0 ∨ kLen.getD p1 0 ≤ Int32.toNatClampNeg v3
          · exact (knone ((if_pos c_5).symm.trans h)).elim
          have h := (if_neg c_5).symm.trans h
          refine kciVs (As := [.int v3]) (rest := [.int (mX9_at 400 (t_tokenStart + v3) t_bytes)]) (i := p1) hp1 (kJ0_charAt_5068e l E hp1 c_5) ⟨hx, hb, hml, hown, hts⟩ (cwV 1 hts gX6_isAtWord_J0_charAt_5068e rfl rfl rfl (by decide +kernel) ⟨by decide, by decide⟩) hE hP hD hS hA rfl hl.1 rfl (Nat.le_of_ble_eq_true rfl) dX6_isAtWord_50 ⟨Nat.zero_le _, Nat.zero_le _⟩ (fun H locs hP hD hS => ?_)
          refine lv_icmp_eq (tgt := 58) hx hb dX6_isAtWord_53 (by decide) (fun c_6 => ?_) (fun c_6 => ?_)
          · have h := (if_pos c_6).symm.trans h
            refine lv_iinc (v := (v3 + (iI 1))) (lv' := [(3, .int (v3 + (iI 1))), (0, .ref a_t), (1, .ref (E.2.2.1 p1)), (2, .int v2)]) hx hb dX6_isAtWord_58 hl (k := 3) rfl (kinc _ (by decide)) (by decide) rfl (fun ls hl => ?_)
            refine lv_goto (tgt := 22) hx hb dX6_isAtWord_61 (by decide) ?_
            exact ih (v3 + (iI 1)) _ _ _ h hP hD hS (lv_sub hl [1, 2, 3, 0] rfl)
          · have h := (if_neg c_6).symm.trans h
            refine lv_iconst (v := (iI 0)) hx hb dX6_isAtWord_56 (by decide) ?_
            exact hret _ _ (iI 0) _ _ _ (Option.some.inj h) rfl rfl hP hS dX6_isAtWord_57
  rw [mX6_isAtWord] at h
  refine lv_aload_n hx hb dX6_isAtWord_0 rfl (lv_at hl 0 rfl) ?_
  refine va_get (D := kD E) (cl := vwCl) (tys := kT E) (ci := 6) (v := .int t_tokenEnd) (C := RX6) (T := TX6) (N := 4) hx hb hts iX6 hown hK hP 0 rfl rfl 3 (by decide) w1 (fun _ h9 => h9) rfl dX6_isAtWord_1 ?_
  refine lv_aload_n hx hb dX6_isAtWord_4 rfl (lv_at hl 0 rfl) ?_
  refine va_get (D := kD E) (cl := vwCl) (tys := kT E) (ci := 6) (v := .int t_tokenStart) (C := RX6) (T := TX6) (N := 4) hx hb hts iX6 hown hK hP 0 rfl rfl 2 (by decide) w2 (fun _ h9 => h9) rfl dX6_isAtWord_5 ?_
  refine lv_isub hx hb dX6_isAtWord_8 ?_
  refine lv_istore_n (lv' := [(2, .int (t_tokenEnd - t_tokenStart)), (0, .ref a_t), (1, .ref (E.2.2.1 p1))]) hx hb dX6_isAtWord_9 rfl hl (by decide) rfl (fun ls hl => ?_)
  refine lv_iload_n hx hb dX6_isAtWord_10 rfl (lv_at hl 0 rfl) ?_
  refine lv_aload_n hx hb dX6_isAtWord_11 rfl (lv_at hl 2 rfl) ?_
  refine kciVs (As := []) (rest := [.int (t_tokenEnd - t_tokenStart)]) (i := p1) hp1 (kJ0_length_8abf5 l E hp1) ⟨hx, hb, hml, hown, hts⟩ (cwV 0 hts gX6_isAtWord_J0_length_8abf5 rfl rfl rfl (by decide +kernel) ⟨by decide, by decide⟩) hE hP hD hS hA rfl hl.1 rfl (Nat.le_of_ble_eq_true rfl) dX6_isAtWord_12 ⟨Nat.zero_le _, Nat.zero_le _⟩ (fun H locs hP hD hS => ?_)
  refine lv_icmp_eq (tgt := 20) hx hb dX6_isAtWord_15 (by decide) (fun c_1 => ?_) (fun c_1 => ?_)
  · have h := (if_pos c_1).symm.trans h
    refine lv_iconst (v := (iI 0)) hx hb dX6_isAtWord_20 (by decide) ?_
    refine lv_istore_n (lv' := [(3, .int (iI 0)), (2, .int (t_tokenEnd - t_tokenStart)), (0, .ref a_t), (1, .ref (E.2.2.1 p1))]) hx hb dX6_isAtWord_21 rfl hl (by decide) rfl (fun ls hl => ?_)
    exact L22 (t_tokenEnd - t_tokenStart) _ (iI 0) _ _ _ h hP hD hS (lv_sub hl [2, 3, 1, 0] rfl)
  · have h := (if_neg c_1).symm.trans h
    refine lv_iconst (v := (iI 0)) hx hb dX6_isAtWord_18 (by decide) ?_
    exact hret _ _ (iI 0) _ _ _ (Option.some.inj h) rfl rfl hP hS dX6_isAtWord_19
abbrev rmX6_take : Room := { frames := 5, cells := 0, slots := 0, locals := 110 }
set_option maxHeartbeats 4000000 in
set_option maxRecDepth 100000 in
theorem kX6_take (l : Launch) (E : KE) {a_t : Nat} {a_t_bytes : Nat} {p1 : Nat} (hp1 : p1 < 6) {t_length : Int32} {t_tokenStart : Int32} {t_tokenEnd : Int32} {t_bytes : Nat → Int32} {out : Int32 × Int32 × Int32} (h : mX6_take p1 t_length t_tokenStart t_tokenEnd t_bytes = some out) : KI l E yX6_take wsX6_take rmX6_take [.ref a_t, .ref (E.2.2.1 p1)] [oo a_t 6 [.ref a_t_bytes, .int t_length, .int t_tokenStart, .int t_tokenEnd], ar E a_t_bytes 400 t_bytes] [oo a_t 6 [.ref a_t_bytes, .int t_length, .int out.2.1, .int out.2.2], ar E a_t_bytes 400 t_bytes] out.1 := by
  refine kmetI (T := Int32 × Int32 × Int32) (out := out) (wf := (fun (o : Int32 × Int32 × Int32) => [oo a_t 6 [.ref a_t_bytes, .int t_length, .int o.2.1, .int o.2.2], ar E a_t_bytes 400 t_bytes])) (rf := (fun (o : Int32 × Int32 × Int32) => o.1)) (cc := cX6_take) (maxL := 2) (ty := .boolean) (by decide) rfl (Nat.le_of_ble_eq_true rfl) ?_
  intro p e s m args below meth c A Q ls hx hb hml hts hown hE hP hD hS hA hl hret
  have hown : s.vm.findClass RX6 = some m.cls := hown
  have hK := hE.1
  have hl : lv_has ls 2 [(0, .ref a_t), (1, .ref (E.2.2.1 p1))] := hl
  have hP : va_P (kD E) vwCl [oo a_t 6 [.ref a_t_bytes, .int t_length, .int t_tokenStart, .int t_tokenEnd], ar E a_t_bytes 400 t_bytes] s.heap := hP
  have hD : va_D A [oo a_t 6 [.ref a_t_bytes, .int t_length, .int t_tokenStart, .int t_tokenEnd], ar E a_t_bytes 400 t_bytes] := hD
  rw [mX6_take] at h
  refine lv_aload_n hx hb dX6_take_0 rfl (lv_at hl 0 rfl) ?_
  refine lv_aload_n hx hb dX6_take_1 rfl (lv_at hl 1 rfl) ?_
  obtain ⟨o1, hc1, h⟩ := kbind h
  refine kciV (l := l) (E := E) (wc := [oo a_t 6 [.ref a_t_bytes, .int t_length, .int t_tokenStart, .int t_tokenEnd], ar E a_t_bytes 400 t_bytes]) (w1 := [oo a_t 6 [.ref a_t_bytes, .int t_length, .int t_tokenStart, .int t_tokenEnd], ar E a_t_bytes 400 t_bytes]) (w' := [oo a_t 6 [.ref a_t_bytes, .int t_length, .int t_tokenStart, .int t_tokenEnd], ar E a_t_bytes 400 t_bytes]) (ads := [a_t, a_t_bytes]) (r := o1) (As := [.ref (E.2.2.1 p1)]) (rest := []) (kX6_isAtWord l E (hp1 := hp1) hc1) ⟨hx, hb, hml, hown, hts⟩ (cwV 1 hts gX6_take_X6_isAtWord rfl rfl rfl (by decide +kernel) ⟨by decide, by decide⟩) hE hP hD hS hA [0, 1] (by decide) rfl rfl rfl rfl rfl rfl rfl rfl hl.1 rfl (Nat.le_of_ble_eq_true rfl) dX6_take_2 ⟨Nat.zero_le _, Nat.zero_le _⟩ (fun H locs hP hD hS => ?_)
  refine lv_if_ne (tgt := 10) hx hb dX6_take_5 (by decide) (fun c_2 => ?_) (fun c_2 => ?_)
  · have h := (if_neg c_2).symm.trans h
    refine lv_aload_n hx hb dX6_take_10 rfl (lv_at hl 0 rfl) ?_
    obtain ⟨o3, hc3, h⟩ := kbind h
    refine kcvV (l := l) (E := E) (wc := [oo a_t 6 [.ref a_t_bytes, .int t_length, .int t_tokenStart, .int t_tokenEnd], ar E a_t_bytes 400 t_bytes]) (w1 := [oo a_t 6 [.ref a_t_bytes, .int t_length, .int o3.1, .int o3.2], ar E a_t_bytes 400 t_bytes]) (w' := [oo a_t 6 [.ref a_t_bytes, .int t_length, .int o3.1, .int o3.2], ar E a_t_bytes 400 t_bytes]) (ads := [a_t, a_t_bytes]) (As := []) (rest := []) (kX6_next l E hc3) ⟨hx, hb, hml, hown, hts⟩ (cwV 0 hts gX6_take_X6_next rfl rfl rfl (by decide +kernel) ⟨by decide, by decide⟩) hE hP hD hS hA [0, 1] (by decide) rfl rfl rfl rfl rfl rfl rfl rfl hl.1 rfl (Nat.le_of_ble_eq_true rfl) dX6_take_11 ⟨Nat.zero_le _, Nat.zero_le _⟩ (fun H locs hP hD hS => ?_)
    refine lv_iconst (v := (iI 1)) hx hb dX6_take_14 (by decide) ?_
    exact hret _ _ ((iI 1), o3.1, o3.2) _ _ _ (Option.some.inj h) rfl rfl hP hS dX6_take_15
  · have h := (if_pos c_2).symm.trans h
    refine lv_iconst (v := (iI 0)) hx hb dX6_take_8 (by decide) ?_
    exact hret _ _ ((iI 0), t_tokenStart, t_tokenEnd) _ _ _ (Option.some.inj h) rfl rfl hP hS dX6_take_9
abbrev rmX6_number : Room := { frames := 1, cells := 0, slots := 0, locals := 21 }
set_option maxHeartbeats 4000000 in
set_option maxRecDepth 100000 in
theorem kX6_number (l : Launch) (E : KE) {a_t : Nat} {a_t_bytes : Nat} {t_length : Int32} {t_tokenStart : Int32} {t_tokenEnd : Int32} {t_bytes : Nat → Int32} {out : Int32} (h : mX6_number t_length t_tokenStart t_tokenEnd t_bytes = some out) : KI l E yX6_number wsX6_number rmX6_number [.ref a_t] [oo a_t 6 [.ref a_t_bytes, .int t_length, .int t_tokenStart, .int t_tokenEnd], ar E a_t_bytes 400 t_bytes] [oo a_t 6 [.ref a_t_bytes, .int t_length, .int t_tokenStart, .int t_tokenEnd], ar E a_t_bytes 400 t_bytes] out := by
  refine kmetI (T := Int32) (out := out) (wf := (fun (o : Int32) => [oo a_t 6 [.ref a_t_bytes, .int t_length, .int t_tokenStart, .int t_tokenEnd], ar E a_t_bytes 400 t_bytes])) (rf := (fun (o : Int32) => o)) (cc := cX6_number) (maxL := 3) (ty := .int) (by decide) rfl (Nat.le_of_ble_eq_true rfl) ?_
  intro p e s m args below meth c A Q ls hx hb hml hts hown hE hP hD hS hA hl hret
  have hown : s.vm.findClass RX6 = some m.cls := hown
  have hK := hE.1
  have hl : lv_has ls 3 [(0, .ref a_t)] := hl
  have hP : va_P (kD E) vwCl [oo a_t 6 [.ref a_t_bytes, .int t_length, .int t_tokenStart, .int t_tokenEnd], ar E a_t_bytes 400 t_bytes] s.heap := hP
  have hD : va_D A [oo a_t 6 [.ref a_t_bytes, .int t_length, .int t_tokenStart, .int t_tokenEnd], ar E a_t_bytes 400 t_bytes] := hD
  have iX6 : ∀ w ∈ wsX60, w ∈ wsX6_number := by decide +kernel
  have w1 := hts (.fieldLink RX6 11 "GaugeWeekend$Tape" "bytes" "[I") (by decide +kernel)
  have w2 := hts (.fieldLink RX6 19 "GaugeWeekend$Tape" "tokenStart" "I") (by decide +kernel)
  have w3 := hts (.initialized RX9) (by decide +kernel)
  have w4 := hts (.static yX9_at) (by decide +kernel)
  have w5 := hts (.fieldLink RX6 22 "GaugeWeekend$Tape" "tokenEnd" "I") (by decide +kernel)
  have w6 := hts (.methodLink RX6 40 Lib.Math.min.name) (by decide +kernel)
  have w7 := hts (.static Lib.Math.min.name) (by decide +kernel)
  have w8 := hts (.initialized "java/lang/Math") (by decide +kernel)
  have w9 := hts (.code Lib.Math.min.name Lib.Math.min.code 2 (some .int)) (by decide +kernel)
  have L34 : ∀ (n : Nat) (v1 : Int32) (v2 : Int32) (H : Heap) (locs : List Loc) (ls : Array Slot) (h : mX6_number_L34 t_tokenEnd t_bytes n v1 v2 = some out) (hP : va_P (kD E) vwCl [oo a_t 6 [.ref a_t_bytes, .int t_length, .int t_tokenStart, .int t_tokenEnd], ar E a_t_bytes 400 t_bytes] H) (hD : va_D A [oo a_t 6 [.ref a_t_bytes, .int t_length, .int t_tokenStart, .int t_tokenEnd], ar E a_t_bytes 400 t_bytes]) (hS : va_S A s.heap H locs) (hl : lv_has ls 3 [(0, .ref a_t), (1, .int v1), (2, .int v2)]), W p l e rmX6_number s m args below meth c H locs 0 0 Q (F0 m 34 ls []) := by
    intro  n
    induction n with
    | zero =>
      intro v1 v2 H locs ls h
      rw [mX6_number_L34] at h
      cases h
    | succ n ih =>
      intro v1 v2 H locs ls h hP hD hS hl
      rw [mX6_number_L34] at h
      refine lv_iload_n hx hb dX6_number_34 rfl (lv_at hl 2 rfl) ?_
      refine lv_aload_n hx hb dX6_number_35 rfl (lv_at hl 0 rfl) ?_
      refine va_get (D := kD E) (cl := vwCl) (tys := kT E) (ci := 6) (v := .int t_tokenEnd) (C := RX6) (T := TX6) (N := 4) hx hb hts iX6 hown hK hP 0 rfl rfl 3 (by decide) w5 (fun _ h9 => h9) rfl dX6_number_36 ?_
      refine lv_icmp_ge (tgt := 71) hx hb dX6_number_39 (by decide) (fun c_6 => ?_) (fun c_6 => ?_)
      · have h := (if_pos c_6).symm.trans h
        refine lv_iload_n hx hb dX6_number_71 rfl (lv_at hl 1 rfl) ?_
        exact hret _ _ v1 _ _ _ (Option.some.inj h) rfl rfl hP hS dX6_number_72
      · have h := (if_neg c_6).symm.trans h
        refine lv_iload_n hx hb dX6_number_42 rfl (lv_at hl 1 rfl) ?_
        refine lv_bipush (v := (iI 10)) hx hb dX6_number_43 (by decide) ?_
        refine lv_imul hx hb dX6_number_45 ?_
        refine lv_aload_n hx hb dX6_number_46 rfl (lv_at hl 0 rfl) ?_
        refine va_get (D := kD E) (cl := vwCl) (tys := kT E) (ci := 6) (v := .ref a_t_bytes) (C := RX6) (T := TX6) (N := 4) hx hb hts iX6 hown hK hP 0 rfl rfl 0 (by decide) w1 (fun _ h9 => h9) rfl dX6_number_47 ?_
        refine lv_iload_n hx hb dX6_number_50 rfl (lv_at hl 2 rfl) ?_
        refine kciN (l := l) (E := E) (wc := [ar E a_t_bytes 400 t_bytes]) (w1 := [ar E a_t_bytes 400 t_bytes]) (w' := [oo a_t 6 [.ref a_t_bytes, .int t_length, .int t_tokenStart, .int t_tokenEnd], ar E a_t_bytes 400 t_bytes]) (ads := [a_t_bytes]) (r := (mX9_at 400 v2 t_bytes)) (As := [.ref a_t_bytes, .int v2]) (rest := [.int (v1 * (iI 10))]) (kX9_at l E (hn_q0 := (Nat.le_of_ble_eq_true rfl)) rfl) ⟨hx, hb, hml, hown, hts⟩ ⟨va_cnB 2 hts gX6_number_X9_at_n32 rfl rfl rfl (nwm_16 hE.2.1) w3 (by decide +kernel) ⟨by decide, by decide⟩, w4, trivial⟩ hE hP hD hS hA [1] (by decide) rfl rfl rfl rfl  rfl hl.1 rfl (Nat.le_of_ble_eq_true rfl) dX6_number_51 ⟨Nat.zero_le _, Nat.zero_le _⟩ (fun H locs hP hD hS => ?_)
        refine lv_iadd hx hb dX6_number_54 ?_
        refine lv_bipush (v := (iI 48)) hx hb dX6_number_55 (by decide) ?_
        refine lv_isub hx hb dX6_number_57 ?_
        refine lv_sipush (v := (iI 1000)) hx hb dX6_number_58 (by decide) ?_
        refine va_mmin hx hb (hml.trans hl.1.symm) hown w6 w7 w8 w9 (Nat.le_of_ble_eq_true rfl) (Nat.le_of_ble_eq_true rfl) (Nat.zero_le _) (Nat.zero_le _) dX6_number_61 ?_
        refine lv_istore_n (lv' := [(1, .int (if (iI 1000) < (((v1 * (iI 10)) + (mX9_at 400 v2 t_bytes)) - (iI 48)) then (iI 1000) else (((v1 * (iI 10)) + (mX9_at 400 v2 t_bytes)) - (iI 48)))), (0, .ref a_t), (2, .int v2)]) hx hb dX6_number_64 rfl hl (by decide) rfl (fun ls hl => ?_)
        refine lv_iinc (v := (v2 + (iI 1))) (lv' := [(2, .int (v2 + (iI 1))), (1, .int (if (iI 1000) < (((v1 * (iI 10)) + (mX9_at 400 v2 t_bytes)) - (iI 48)) then (iI 1000) else (((v1 * (iI 10)) + (mX9_at 400 v2 t_bytes)) - (iI 48)))), (0, .ref a_t)]) hx hb dX6_number_65 hl (k := 2) rfl (kinc _ (by decide)) (by decide) rfl (fun ls hl => ?_)
        refine lv_goto (tgt := 34) hx hb dX6_number_68 (by decide) ?_
        exact ih (if (iI 1000) < (((v1 * (iI 10)) + (mX9_at 400 v2 t_bytes)) - (iI 48)) then (iI 1000) else (((v1 * (iI 10)) + (mX9_at 400 v2 t_bytes)) - (iI 48))) (v2 + (iI 1)) _ _ _ h hP hD hS (lv_sub hl [2, 1, 0] rfl)
  rw [mX6_number] at h
  refine lv_aload_n hx hb dX6_number_0 rfl (lv_at hl 0 rfl) ?_
  refine kciV (l := l) (E := E) (wc := [oo a_t 6 [.ref a_t_bytes, .int t_length, .int t_tokenStart, .int t_tokenEnd]]) (w1 := [oo a_t 6 [.ref a_t_bytes, .int t_length, .int t_tokenStart, .int t_tokenEnd]]) (w' := [oo a_t 6 [.ref a_t_bytes, .int t_length, .int t_tokenStart, .int t_tokenEnd], ar E a_t_bytes 400 t_bytes]) (ads := [a_t]) (r := (mX6_isAtEnd t_length t_tokenStart)) (As := []) (rest := []) (kX6_isAtEnd l E rfl) ⟨hx, hb, hml, hown, hts⟩ (cwV 0 hts gX6_number_X6_isAtEnd rfl rfl rfl (by decide +kernel) ⟨by decide, by decide⟩) hE hP hD hS hA [0] (by decide) rfl rfl rfl rfl rfl rfl rfl rfl hl.1 rfl (Nat.le_of_ble_eq_true rfl) dX6_number_1 ⟨Nat.zero_le _, Nat.zero_le _⟩ (fun H locs hP hD hS => ?_)
  refine lv_if_ne (tgt := 25) hx hb dX6_number_4 (by decide) (fun c_2 => ?_) (fun c_2 => ?_)
  · have h := (if_neg c_2).symm.trans h
    refine lv_iconst (v := (iI (-1))) hx hb dX6_number_25 (by decide) ?_
    exact hret _ _ (iI (-1)) _ _ _ (Option.some.inj h) rfl rfl hP hS dX6_number_26
  · have h := (if_pos c_2).symm.trans h
    refine lv_aload_n hx hb dX6_number_7 rfl (lv_at hl 0 rfl) ?_
    refine va_get (D := kD E) (cl := vwCl) (tys := kT E) (ci := 6) (v := .ref a_t_bytes) (C := RX6) (T := TX6) (N := 4) hx hb hts iX6 hown hK hP 0 rfl rfl 0 (by decide) w1 (fun _ h9 => h9) rfl dX6_number_8 ?_
    refine lv_aload_n hx hb dX6_number_11 rfl (lv_at hl 0 rfl) ?_
    refine va_get (D := kD E) (cl := vwCl) (tys := kT E) (ci := 6) (v := .int t_tokenStart) (C := RX6) (T := TX6) (N := 4) hx hb hts iX6 hown hK hP 0 rfl rfl 2 (by decide) w2 (fun _ h9 => h9) rfl dX6_number_12 ?_
    refine kciN (l := l) (E := E) (wc := [ar E a_t_bytes 400 t_bytes]) (w1 := [ar E a_t_bytes 400 t_bytes]) (w' := [oo a_t 6 [.ref a_t_bytes, .int t_length, .int t_tokenStart, .int t_tokenEnd], ar E a_t_bytes 400 t_bytes]) (ads := [a_t_bytes]) (r := (mX9_at 400 t_tokenStart t_bytes)) (As := [.ref a_t_bytes, .int t_tokenStart]) (rest := []) (kX9_at l E (hn_q0 := (Nat.le_of_ble_eq_true rfl)) rfl) ⟨hx, hb, hml, hown, hts⟩ ⟨va_cnB 2 hts gX6_number_X9_at_n32 rfl rfl rfl (nwm_16 hE.2.1) w3 (by decide +kernel) ⟨by decide, by decide⟩, w4, trivial⟩ hE hP hD hS hA [1] (by decide) rfl rfl rfl rfl  rfl hl.1 rfl (Nat.le_of_ble_eq_true rfl) dX6_number_15 ⟨Nat.zero_le _, Nat.zero_le _⟩ (fun H locs hP hD hS => ?_)
    refine kciS (l := l) (E := E) (wc := []) (w1 := []) (w' := [oo a_t 6 [.ref a_t_bytes, .int t_length, .int t_tokenStart, .int t_tokenEnd], ar E a_t_bytes 400 t_bytes]) (ads := []) (r := (mX6_sortOf (mX9_at 400 t_tokenStart t_bytes))) (As := [.int (mX9_at 400 t_tokenStart t_bytes)]) (rest := []) (kX6_sortOf l E rfl) ⟨hx, hb, hml, hown, hts⟩ (va_cwS 1 hts gX6_number_X6_sortOf rfl rfl rfl (by decide +kernel) ⟨by decide, by decide⟩) hE hP hD hS hA [] (by decide) rfl rfl rfl rfl  rfl hl.1 rfl (Nat.le_of_ble_eq_true rfl) dX6_number_18 ⟨Nat.zero_le _, Nat.zero_le _⟩ (fun H locs hP hD hS => ?_)
    refine lv_iconst (v := (iI 2)) hx hb dX6_number_21 (by decide) ?_
    refine lv_icmp_eq (tgt := 27) hx hb dX6_number_22 (by decide) (fun c_5 => ?_) (fun c_5 => ?_)
    · have h := (if_pos c_5).symm.trans h
      refine lv_iconst (v := (iI 0)) hx hb dX6_number_27 (by decide) ?_
      refine lv_istore_n (lv' := [(1, .int (iI 0)), (0, .ref a_t)]) hx hb dX6_number_28 rfl hl (by decide) rfl (fun ls hl => ?_)
      refine lv_aload_n hx hb dX6_number_29 rfl (lv_at hl 1 rfl) ?_
      refine va_get (D := kD E) (cl := vwCl) (tys := kT E) (ci := 6) (v := .int t_tokenStart) (C := RX6) (T := TX6) (N := 4) hx hb hts iX6 hown hK hP 0 rfl rfl 2 (by decide) w2 (fun _ h9 => h9) rfl dX6_number_30 ?_
      refine lv_istore_n (lv' := [(2, .int t_tokenStart), (1, .int (iI 0)), (0, .ref a_t)]) hx hb dX6_number_33 rfl hl (by decide) rfl (fun ls hl => ?_)
      exact L34 _ (iI 0) t_tokenStart _ _ _ h hP hD hS (lv_sub hl [2, 1, 0] rfl)
    · have h := (if_neg c_5).symm.trans h
      refine lv_iconst (v := (iI (-1))) hx hb dX6_number_25 (by decide) ?_
      exact hret _ _ (iI (-1)) _ _ _ (Option.some.inj h) rfl rfl hP hS dX6_number_26
abbrev rmX4_readLine : Room := { frames := 6, cells := 0, slots := 0, locals := 131 }
set_option maxHeartbeats 4000000 in
set_option maxRecDepth 100000 in
theorem kX4_readLine (l : Launch) (E : KE) {a_t : Nat} {a_q1 : Nat} {a_q1_bytes : Nat} {a_q2 : Nat} {a_q2_oneEnd : Nat} {a_q2_otherEnd : Nat} {a_q2_miles : Nat} {a_q2_hours : Nat} {a_q2_spikesSet : Nat} {a_q3 : Nat} {a_q3_lineOf : Nat} {a_q3_after : Nat} {a_q3_hours : Nat} {a_q3_gangs : Nat} {a_q3_begins : Nat} {a_q3_done : Nat} {t_line : Int32} {t_after : Int32} {t_hours : Int32} {t_gangs : Int32} {q1_length : Int32} {q1_tokenStart : Int32} {q1_tokenEnd : Int32} {q1_bytes : Nat → Int32} {q2_many : Int32} {q2_rateOfSet : Int32} {q2_rateOfOthers : Int32} {q3_many : Int32} {q3_gangs : Nat → Int32} {out : Int32 × Int32 × Int32 × Int32} (h : mX4_readLine t_line q1_length q1_tokenStart q1_tokenEnd q1_bytes q2_many q3_gangs = some out) : KI l E yX4_readLine wsX4_readLine rmX4_readLine [.ref a_t, .ref a_q1, .ref a_q2, .ref a_q3] [oo a_t 4 [.int t_line, .int t_after, .int t_hours, .int t_gangs], oo a_q1 6 [.ref a_q1_bytes, .int q1_length, .int q1_tokenStart, .int q1_tokenEnd], ar E a_q1_bytes 400 q1_bytes, oo a_q2 1 [.ref a_q2_oneEnd, .ref a_q2_otherEnd, .ref a_q2_miles, .ref a_q2_hours, .ref a_q2_spikesSet, .int q2_many, .int q2_rateOfSet, .int q2_rateOfOthers], oo a_q3 2 [.ref a_q3_lineOf, .ref a_q3_after, .ref a_q3_hours, .ref a_q3_gangs, .ref a_q3_begins, .ref a_q3_done, .int q3_many], ar E a_q3_gangs 30 q3_gangs] [oo a_t 4 [.int out.2.1, .int t_after, .int t_hours, .int t_gangs], oo a_q1 6 [.ref a_q1_bytes, .int q1_length, .int out.2.2.1, .int out.2.2.2], ar E a_q1_bytes 400 q1_bytes, oo a_q2 1 [.ref a_q2_oneEnd, .ref a_q2_otherEnd, .ref a_q2_miles, .ref a_q2_hours, .ref a_q2_spikesSet, .int q2_many, .int q2_rateOfSet, .int q2_rateOfOthers], oo a_q3 2 [.ref a_q3_lineOf, .ref a_q3_after, .ref a_q3_hours, .ref a_q3_gangs, .ref a_q3_begins, .ref a_q3_done, .int q3_many], ar E a_q3_gangs 30 q3_gangs] out.1 := by
  refine kmetI (T := Int32 × Int32 × Int32 × Int32) (out := out) (wf := (fun (o : Int32 × Int32 × Int32 × Int32) => [oo a_t 4 [.int o.2.1, .int t_after, .int t_hours, .int t_gangs], oo a_q1 6 [.ref a_q1_bytes, .int q1_length, .int o.2.2.1, .int o.2.2.2], ar E a_q1_bytes 400 q1_bytes, oo a_q2 1 [.ref a_q2_oneEnd, .ref a_q2_otherEnd, .ref a_q2_miles, .ref a_q2_hours, .ref a_q2_spikesSet, .int q2_many, .int q2_rateOfSet, .int q2_rateOfOthers], oo a_q3 2 [.ref a_q3_lineOf, .ref a_q3_after, .ref a_q3_hours, .ref a_q3_gangs, .ref a_q3_begins, .ref a_q3_done, .int q3_many], ar E a_q3_gangs 30 q3_gangs])) (rf := (fun (o : Int32 × Int32 × Int32 × Int32) => o.1)) (cc := cX4_readLine) (maxL := 4) (ty := .boolean) (by decide) rfl (Nat.le_of_ble_eq_true rfl) ?_
  intro p e s m args below meth c A Q ls hx hb hml hts hown hE hP hD hS hA hl hret
  have hown : s.vm.findClass RX4 = some m.cls := hown
  have hK := hE.1
  have hl : lv_has ls 4 [(0, .ref a_t), (1, .ref a_q1), (2, .ref a_q2), (3, .ref a_q3)] := hl
  have hP : va_P (kD E) vwCl [oo a_t 4 [.int t_line, .int t_after, .int t_hours, .int t_gangs], oo a_q1 6 [.ref a_q1_bytes, .int q1_length, .int q1_tokenStart, .int q1_tokenEnd], ar E a_q1_bytes 400 q1_bytes, oo a_q2 1 [.ref a_q2_oneEnd, .ref a_q2_otherEnd, .ref a_q2_miles, .ref a_q2_hours, .ref a_q2_spikesSet, .int q2_many, .int q2_rateOfSet, .int q2_rateOfOthers], oo a_q3 2 [.ref a_q3_lineOf, .ref a_q3_after, .ref a_q3_hours, .ref a_q3_gangs, .ref a_q3_begins, .ref a_q3_done, .int q3_many], ar E a_q3_gangs 30 q3_gangs] s.heap := hP
  have hD : va_D A [oo a_t 4 [.int t_line, .int t_after, .int t_hours, .int t_gangs], oo a_q1 6 [.ref a_q1_bytes, .int q1_length, .int q1_tokenStart, .int q1_tokenEnd], ar E a_q1_bytes 400 q1_bytes, oo a_q2 1 [.ref a_q2_oneEnd, .ref a_q2_otherEnd, .ref a_q2_miles, .ref a_q2_hours, .ref a_q2_spikesSet, .int q2_many, .int q2_rateOfSet, .int q2_rateOfOthers], oo a_q3 2 [.ref a_q3_lineOf, .ref a_q3_after, .ref a_q3_hours, .ref a_q3_gangs, .ref a_q3_begins, .ref a_q3_done, .int q3_many], ar E a_q3_gangs 30 q3_gangs] := hD
  have iX4 : ∀ w ∈ wsX40, w ∈ wsX4_readLine := by decide +kernel
  have w1 := hts (.fieldLink RX4 9 "GaugeWeekend$Reader" "line" "I") (by decide +kernel)
  rw [mX4_readLine] at h
  refine lv_aload_n hx hb dX4_readLine_0 rfl (lv_at hl 1 rfl) ?_
  refine va_ldcS hx hb hown (hE.2.2.2.1 _ (kTx_0)) dX4_readLine_1 ?_
  obtain ⟨o1, hc1, h⟩ := kbind h
  refine kciV (l := l) (E := E) (wc := [oo a_q1 6 [.ref a_q1_bytes, .int q1_length, .int q1_tokenStart, .int q1_tokenEnd], ar E a_q1_bytes 400 q1_bytes]) (w1 := [oo a_q1 6 [.ref a_q1_bytes, .int q1_length, .int o1.2.1, .int o1.2.2], ar E a_q1_bytes 400 q1_bytes]) (w' := [oo a_t 4 [.int t_line, .int t_after, .int t_hours, .int t_gangs], oo a_q1 6 [.ref a_q1_bytes, .int q1_length, .int o1.2.1, .int o1.2.2], ar E a_q1_bytes 400 q1_bytes, oo a_q2 1 [.ref a_q2_oneEnd, .ref a_q2_otherEnd, .ref a_q2_miles, .ref a_q2_hours, .ref a_q2_spikesSet, .int q2_many, .int q2_rateOfSet, .int q2_rateOfOthers], oo a_q3 2 [.ref a_q3_lineOf, .ref a_q3_after, .ref a_q3_hours, .ref a_q3_gangs, .ref a_q3_begins, .ref a_q3_done, .int q3_many], ar E a_q3_gangs 30 q3_gangs]) (ads := [a_q1, a_q1_bytes]) (r := o1.1) (As := [.ref (E.2.2.1 0)]) (rest := []) (kX6_take l E (hp1 := (by decide)) hc1) ⟨hx, hb, hml, hown, hts⟩ (cwV 1 hts gX4_readLine_X6_take rfl rfl rfl (by decide +kernel) ⟨by decide, by decide⟩) hE hP hD hS hA [1, 2] (by decide) rfl rfl rfl rfl rfl rfl rfl rfl hl.1 rfl (Nat.le_of_ble_eq_true rfl) dX4_readLine_3 ⟨Nat.zero_le _, Nat.zero_le _⟩ (fun H locs hP hD hS => ?_)
  refine lv_if_ne (tgt := 11) hx hb dX4_readLine_6 (by decide) (fun c_2 => ?_) (fun c_2 => ?_)
  · have h := (if_neg c_2).symm.trans h
    refine lv_aload_n hx hb dX4_readLine_11 rfl (lv_at hl 0 rfl) ?_
    refine lv_aload_n hx hb dX4_readLine_12 rfl (lv_at hl 1 rfl) ?_
    obtain ⟨o3, hc3, h⟩ := kbind h
    refine kciV (l := l) (E := E) (wc := [oo a_q1 6 [.ref a_q1_bytes, .int q1_length, .int o1.2.1, .int o1.2.2], ar E a_q1_bytes 400 q1_bytes]) (w1 := [oo a_q1 6 [.ref a_q1_bytes, .int q1_length, .int o1.2.1, .int o1.2.2], ar E a_q1_bytes 400 q1_bytes]) (w' := [oo a_t 4 [.int t_line, .int t_after, .int t_hours, .int t_gangs], oo a_q1 6 [.ref a_q1_bytes, .int q1_length, .int o1.2.1, .int o1.2.2], ar E a_q1_bytes 400 q1_bytes, oo a_q2 1 [.ref a_q2_oneEnd, .ref a_q2_otherEnd, .ref a_q2_miles, .ref a_q2_hours, .ref a_q2_spikesSet, .int q2_many, .int q2_rateOfSet, .int q2_rateOfOthers], oo a_q3 2 [.ref a_q3_lineOf, .ref a_q3_after, .ref a_q3_hours, .ref a_q3_gangs, .ref a_q3_begins, .ref a_q3_done, .int q3_many], ar E a_q3_gangs 30 q3_gangs]) (ads := [a_q1, a_q1_bytes]) (r := o3) (As := []) (rest := [.ref a_t]) (kX6_number l E hc3) ⟨hx, hb, hml, hown, hts⟩ (cwV 0 hts gX4_readLine_X6_number rfl rfl rfl (by decide +kernel) ⟨by decide, by decide⟩) hE hP hD hS hA [1, 2] (by decide) rfl rfl rfl rfl rfl rfl rfl rfl hl.1 rfl (Nat.le_of_ble_eq_true rfl) dX4_readLine_13 ⟨Nat.zero_le _, Nat.zero_le _⟩ (fun H locs hP hD hS => ?_)
    refine kput (w' := [oo a_t 4 [.int o3, .int t_after, .int t_hours, .int t_gangs], oo a_q1 6 [.ref a_q1_bytes, .int q1_length, .int o1.2.1, .int o1.2.2], ar E a_q1_bytes 400 q1_bytes, oo a_q2 1 [.ref a_q2_oneEnd, .ref a_q2_otherEnd, .ref a_q2_miles, .ref a_q2_hours, .ref a_q2_spikesSet, .int q2_many, .int q2_rateOfSet, .int q2_rateOfOthers], oo a_q3 2 [.ref a_q3_lineOf, .ref a_q3_after, .ref a_q3_hours, .ref a_q3_gangs, .ref a_q3_begins, .ref a_q3_done, .int q3_many], ar E a_q3_gangs 30 q3_gangs]) (E := E) (ci := 4) (v := .int o3) (ty := .int) (C := RX4) (T := TX4) (N := 4) hx hb hts iX4 tyX4 tyX4_ok nmX4 hown hK hP hD hS 0 rfl rfl 0 (by decide) w1 (fun _ h9 => h9) rfl (tyX4_ok 0 (by decide)) rfl rfl (Nat.le_of_ble_eq_true rfl) rfl dX4_readLine_16 (fun H locs hP hD hS => ?_)
    refine lv_aload_n hx hb dX4_readLine_19 rfl (lv_at hl 2 rfl) ?_
    refine lv_aload_n hx hb dX4_readLine_20 rfl (lv_at hl 0 rfl) ?_
    refine va_get (D := kD E) (cl := vwCl) (tys := kT E) (ci := 4) (v := .int o3) (C := RX4) (T := TX4) (N := 4) hx hb hts iX4 hown hK hP 0 rfl rfl 0 (by decide) w1 (fun _ h9 => h9) rfl dX4_readLine_21 ?_
    refine kciV (l := l) (E := E) (wc := [oo a_q2 1 [.ref a_q2_oneEnd, .ref a_q2_otherEnd, .ref a_q2_miles, .ref a_q2_hours, .ref a_q2_spikesSet, .int q2_many, .int q2_rateOfSet, .int q2_rateOfOthers]]) (w1 := [oo a_q2 1 [.ref a_q2_oneEnd, .ref a_q2_otherEnd, .ref a_q2_miles, .ref a_q2_hours, .ref a_q2_spikesSet, .int q2_many, .int q2_rateOfSet, .int q2_rateOfOthers]]) (w' := [oo a_t 4 [.int o3, .int t_after, .int t_hours, .int t_gangs], oo a_q1 6 [.ref a_q1_bytes, .int q1_length, .int o1.2.1, .int o1.2.2], ar E a_q1_bytes 400 q1_bytes, oo a_q2 1 [.ref a_q2_oneEnd, .ref a_q2_otherEnd, .ref a_q2_miles, .ref a_q2_hours, .ref a_q2_spikesSet, .int q2_many, .int q2_rateOfSet, .int q2_rateOfOthers], oo a_q3 2 [.ref a_q3_lineOf, .ref a_q3_after, .ref a_q3_hours, .ref a_q3_gangs, .ref a_q3_begins, .ref a_q3_done, .int q3_many], ar E a_q3_gangs 30 q3_gangs]) (ads := [a_q2]) (r := (mX1_isThere o3 q2_many)) (As := [.int o3]) (rest := []) (kX1_isThere l E rfl) ⟨hx, hb, hml, hown, hts⟩ (cwV 1 hts gX4_readLine_X1_isThere rfl rfl rfl (by decide +kernel) ⟨by decide, by decide⟩) hE hP hD hS hA [3] (by decide) rfl rfl rfl rfl rfl rfl rfl rfl hl.1 rfl (Nat.le_of_ble_eq_true rfl) dX4_readLine_24 ⟨Nat.zero_le _, Nat.zero_le _⟩ (fun H locs hP hD hS => ?_)
    refine lv_if_eq (tgt := 41) hx hb dX4_readLine_27 (by decide) (fun c_5 => ?_) (fun c_5 => ?_)
    · have h := (if_pos c_5).symm.trans h
      refine lv_iconst (v := (iI 0)) hx hb dX4_readLine_41 (by decide) ?_
      exact hret _ _ ((iI 0), o3, o1.2.1, o1.2.2) _ _ _ (Option.some.inj h) rfl rfl hP hS dX4_readLine_42
    · have h := (if_neg c_5).symm.trans h
      refine lv_aload_n hx hb dX4_readLine_30 rfl (lv_at hl 3 rfl) ?_
      refine lv_aload_n hx hb dX4_readLine_31 rfl (lv_at hl 0 rfl) ?_
      refine va_get (D := kD E) (cl := vwCl) (tys := kT E) (ci := 4) (v := .int o3) (C := RX4) (T := TX4) (N := 4) hx hb hts iX4 hown hK hP 0 rfl rfl 0 (by decide) w1 (fun _ h9 => h9) rfl dX4_readLine_32 ?_
      refine kciV (l := l) (E := E) (wc := [oo a_q3 2 [.ref a_q3_lineOf, .ref a_q3_after, .ref a_q3_hours, .ref a_q3_gangs, .ref a_q3_begins, .ref a_q3_done, .int q3_many], ar E a_q3_gangs 30 q3_gangs]) (w1 := [oo a_q3 2 [.ref a_q3_lineOf, .ref a_q3_after, .ref a_q3_hours, .ref a_q3_gangs, .ref a_q3_begins, .ref a_q3_done, .int q3_many], ar E a_q3_gangs 30 q3_gangs]) (w' := [oo a_t 4 [.int o3, .int t_after, .int t_hours, .int t_gangs], oo a_q1 6 [.ref a_q1_bytes, .int q1_length, .int o1.2.1, .int o1.2.2], ar E a_q1_bytes 400 q1_bytes, oo a_q2 1 [.ref a_q2_oneEnd, .ref a_q2_otherEnd, .ref a_q2_miles, .ref a_q2_hours, .ref a_q2_spikesSet, .int q2_many, .int q2_rateOfSet, .int q2_rateOfOthers], oo a_q3 2 [.ref a_q3_lineOf, .ref a_q3_after, .ref a_q3_hours, .ref a_q3_gangs, .ref a_q3_begins, .ref a_q3_done, .int q3_many], ar E a_q3_gangs 30 q3_gangs]) (ads := [a_q3, a_q3_gangs]) (r := (mX2_hasOrder o3 q3_gangs)) (As := [.int o3]) (rest := []) (kX2_hasOrder l E rfl) ⟨hx, hb, hml, hown, hts⟩ (cwV 1 hts gX4_readLine_X2_hasOrder rfl rfl rfl (by decide +kernel) ⟨by decide, by decide⟩) hE hP hD hS hA [4, 5] (by decide) rfl rfl rfl rfl rfl rfl rfl rfl hl.1 rfl (Nat.le_of_ble_eq_true rfl) dX4_readLine_35 ⟨Nat.zero_le _, Nat.zero_le _⟩ (fun H locs hP hD hS => ?_)
      refine lv_if_eq (tgt := 43) hx hb dX4_readLine_38 (by decide) (fun c_7 => ?_) (fun c_7 => ?_)
      · have h := (if_pos c_7).symm.trans h
        refine lv_aload_n hx hb dX4_readLine_43 rfl (lv_at hl 1 rfl) ?_
        obtain ⟨o8, hc8, h⟩ := kbind h
        refine kcvV (l := l) (E := E) (wc := [oo a_q1 6 [.ref a_q1_bytes, .int q1_length, .int o1.2.1, .int o1.2.2], ar E a_q1_bytes 400 q1_bytes]) (w1 := [oo a_q1 6 [.ref a_q1_bytes, .int q1_length, .int o8.1, .int o8.2], ar E a_q1_bytes 400 q1_bytes]) (w' := [oo a_t 4 [.int o3, .int t_after, .int t_hours, .int t_gangs], oo a_q1 6 [.ref a_q1_bytes, .int q1_length, .int o8.1, .int o8.2], ar E a_q1_bytes 400 q1_bytes, oo a_q2 1 [.ref a_q2_oneEnd, .ref a_q2_otherEnd, .ref a_q2_miles, .ref a_q2_hours, .ref a_q2_spikesSet, .int q2_many, .int q2_rateOfSet, .int q2_rateOfOthers], oo a_q3 2 [.ref a_q3_lineOf, .ref a_q3_after, .ref a_q3_hours, .ref a_q3_gangs, .ref a_q3_begins, .ref a_q3_done, .int q3_many], ar E a_q3_gangs 30 q3_gangs]) (ads := [a_q1, a_q1_bytes]) (As := []) (rest := []) (kX6_next l E hc8) ⟨hx, hb, hml, hown, hts⟩ (cwV 0 hts gX4_readLine_X6_next rfl rfl rfl (by decide +kernel) ⟨by decide, by decide⟩) hE hP hD hS hA [1, 2] (by decide) rfl rfl rfl rfl rfl rfl rfl rfl hl.1 rfl (Nat.le_of_ble_eq_true rfl) dX4_readLine_44 ⟨Nat.zero_le _, Nat.zero_le _⟩ (fun H locs hP hD hS => ?_)
        refine lv_iconst (v := (iI 1)) hx hb dX4_readLine_47 (by decide) ?_
        exact hret _ _ ((iI 1), o3, o8.1, o8.2) _ _ _ (Option.some.inj h) rfl rfl hP hS dX4_readLine_48
      · have h := (if_neg c_7).symm.trans h
        refine lv_iconst (v := (iI 0)) hx hb dX4_readLine_41 (by decide) ?_
        exact hret _ _ ((iI 0), o3, o1.2.1, o1.2.2) _ _ _ (Option.some.inj h) rfl rfl hP hS dX4_readLine_42
  · have h := (if_pos c_2).symm.trans h
    refine lv_iconst (v := (iI 0)) hx hb dX4_readLine_9 (by decide) ?_
    exact hret _ _ ((iI 0), t_line, o1.2.1, o1.2.2) _ _ _ (Option.some.inj h) rfl rfl hP hS dX4_readLine_10
abbrev rmX6_takeNumber : Room := { frames := 2, cells := 0, slots := 0, locals := 43 }
set_option maxHeartbeats 4000000 in
set_option maxRecDepth 100000 in
theorem kX6_takeNumber (l : Launch) (E : KE) {a_t : Nat} {a_t_bytes : Nat} {p1 : Int32} {p2 : Int32} {t_length : Int32} {t_tokenStart : Int32} {t_tokenEnd : Int32} {t_bytes : Nat → Int32} {out : Int32 × Int32 × Int32} (h : mX6_takeNumber p1 p2 t_length t_tokenStart t_tokenEnd t_bytes = some out) : KI l E yX6_takeNumber wsX6_takeNumber rmX6_takeNumber [.ref a_t, .int p1, .int p2] [oo a_t 6 [.ref a_t_bytes, .int t_length, .int t_tokenStart, .int t_tokenEnd], ar E a_t_bytes 400 t_bytes] [oo a_t 6 [.ref a_t_bytes, .int t_length, .int out.2.1, .int out.2.2], ar E a_t_bytes 400 t_bytes] out.1 := by
  refine kmetI (T := Int32 × Int32 × Int32) (out := out) (wf := (fun (o : Int32 × Int32 × Int32) => [oo a_t 6 [.ref a_t_bytes, .int t_length, .int o.2.1, .int o.2.2], ar E a_t_bytes 400 t_bytes])) (rf := (fun (o : Int32 × Int32 × Int32) => o.1)) (cc := cX6_takeNumber) (maxL := 4) (ty := .int) (by decide) rfl (Nat.le_of_ble_eq_true rfl) ?_
  intro p e s m args below meth c A Q ls hx hb hml hts hown hE hP hD hS hA hl hret
  have hown : s.vm.findClass RX6 = some m.cls := hown
  have hK := hE.1
  have hl : lv_has ls 4 [(0, .ref a_t), (1, .int p1), (2, .int p2)] := hl
  have hP : va_P (kD E) vwCl [oo a_t 6 [.ref a_t_bytes, .int t_length, .int t_tokenStart, .int t_tokenEnd], ar E a_t_bytes 400 t_bytes] s.heap := hP
  have hD : va_D A [oo a_t 6 [.ref a_t_bytes, .int t_length, .int t_tokenStart, .int t_tokenEnd], ar E a_t_bytes 400 t_bytes] := hD
  have w0 := hts (.initialized RX9) (by decide +kernel)
  have w1 := hts (.static yX9_isWithin) (by decide +kernel)
  rw [mX6_takeNumber] at h
  refine lv_aload_n hx hb dX6_takeNumber_0 rfl (lv_at hl 0 rfl) ?_
  obtain ⟨o1, hc1, h⟩ := kbind h
  refine kciV (l := l) (E := E) (wc := [oo a_t 6 [.ref a_t_bytes, .int t_length, .int t_tokenStart, .int t_tokenEnd], ar E a_t_bytes 400 t_bytes]) (w1 := [oo a_t 6 [.ref a_t_bytes, .int t_length, .int t_tokenStart, .int t_tokenEnd], ar E a_t_bytes 400 t_bytes]) (w' := [oo a_t 6 [.ref a_t_bytes, .int t_length, .int t_tokenStart, .int t_tokenEnd], ar E a_t_bytes 400 t_bytes]) (ads := [a_t, a_t_bytes]) (r := o1) (As := []) (rest := []) (kX6_number l E hc1) ⟨hx, hb, hml, hown, hts⟩ (cwV 0 hts gX6_takeNumber_X6_number rfl rfl rfl (by decide +kernel) ⟨by decide, by decide⟩) hE hP hD hS hA [0, 1] (by decide) rfl rfl rfl rfl rfl rfl rfl rfl hl.1 rfl (Nat.le_of_ble_eq_true rfl) dX6_takeNumber_1 ⟨Nat.zero_le _, Nat.zero_le _⟩ (fun H locs hP hD hS => ?_)
  refine lv_istore_n (lv' := [(3, .int o1), (0, .ref a_t), (1, .int p1), (2, .int p2)]) hx hb dX6_takeNumber_4 rfl hl (by decide) rfl (fun ls hl => ?_)
  refine lv_iload_n hx hb dX6_takeNumber_5 rfl (lv_at hl 0 rfl) ?_
  refine lv_iload_n hx hb dX6_takeNumber_6 rfl (lv_at hl 2 rfl) ?_
  refine lv_iload_n hx hb dX6_takeNumber_7 rfl (lv_at hl 3 rfl) ?_
  refine kciN (l := l) (E := E) (wc := []) (w1 := []) (w' := [oo a_t 6 [.ref a_t_bytes, .int t_length, .int t_tokenStart, .int t_tokenEnd], ar E a_t_bytes 400 t_bytes]) (ads := []) (r := (mX9_isWithin o1 p1 p2)) (As := [.int o1, .int p1, .int p2]) (rest := []) (kX9_isWithin l E rfl) ⟨hx, hb, hml, hown, hts⟩ ⟨va_cnB 3 hts gX6_takeNumber_X9_isWithin_n66 rfl rfl rfl (nwm_17 hE.2.1) w0 (by decide +kernel) ⟨by decide, by decide⟩, w1, trivial⟩ hE hP hD hS hA [] (by decide) rfl rfl rfl rfl  rfl hl.1 rfl (Nat.le_of_ble_eq_true rfl) dX6_takeNumber_8 ⟨Nat.zero_le _, Nat.zero_le _⟩ (fun H locs hP hD hS => ?_)
  refine lv_if_ne (tgt := 16) hx hb dX6_takeNumber_11 (by decide) (fun c_3 => ?_) (fun c_3 => ?_)
  · have h := (if_neg c_3).symm.trans h
    refine lv_aload_n hx hb dX6_takeNumber_16 rfl (lv_at hl 1 rfl) ?_
    obtain ⟨o4, hc4, h⟩ := kbind h
    refine kcvV (l := l) (E := E) (wc := [oo a_t 6 [.ref a_t_bytes, .int t_length, .int t_tokenStart, .int t_tokenEnd], ar E a_t_bytes 400 t_bytes]) (w1 := [oo a_t 6 [.ref a_t_bytes, .int t_length, .int o4.1, .int o4.2], ar E a_t_bytes 400 t_bytes]) (w' := [oo a_t 6 [.ref a_t_bytes, .int t_length, .int o4.1, .int o4.2], ar E a_t_bytes 400 t_bytes]) (ads := [a_t, a_t_bytes]) (As := []) (rest := []) (kX6_next l E hc4) ⟨hx, hb, hml, hown, hts⟩ (cwV 0 hts gX6_takeNumber_X6_next rfl rfl rfl (by decide +kernel) ⟨by decide, by decide⟩) hE hP hD hS hA [0, 1] (by decide) rfl rfl rfl rfl rfl rfl rfl rfl hl.1 rfl (Nat.le_of_ble_eq_true rfl) dX6_takeNumber_17 ⟨Nat.zero_le _, Nat.zero_le _⟩ (fun H locs hP hD hS => ?_)
    refine lv_iload_n hx hb dX6_takeNumber_20 rfl (lv_at hl 0 rfl) ?_
    exact hret _ _ (o1, o4.1, o4.2) _ _ _ (Option.some.inj h) rfl rfl hP hS dX6_takeNumber_21
  · have h := (if_pos c_3).symm.trans h
    refine lv_iconst (v := (iI (-1))) hx hb dX6_takeNumber_14 (by decide) ?_
    exact hret _ _ ((iI (-1)), t_tokenStart, t_tokenEnd) _ _ _ (Option.some.inj h) rfl rfl hP hS dX6_takeNumber_15
abbrev rmX4_readAfter : Room := { frames := 6, cells := 0, slots := 0, locals := 131 }
set_option maxHeartbeats 4000000 in
set_option maxRecDepth 100000 in
theorem kX4_readAfter (l : Launch) (E : KE) {a_t : Nat} {a_q1 : Nat} {a_q1_bytes : Nat} {a_q2 : Nat} {a_q2_lineOf : Nat} {a_q2_after : Nat} {a_q2_hours : Nat} {a_q2_gangs : Nat} {a_q2_begins : Nat} {a_q2_done : Nat} {t_line : Int32} {t_after : Int32} {t_hours : Int32} {t_gangs : Int32} {q1_length : Int32} {q1_tokenStart : Int32} {q1_tokenEnd : Int32} {q1_bytes : Nat → Int32} {q2_many : Int32} {q2_gangs : Nat → Int32} {out : Int32 × Int32 × Int32 × Int32 × Int32} (h : mX4_readAfter t_hours q1_length q1_tokenStart q1_tokenEnd q1_bytes q2_gangs = some out) : KI l E yX4_readAfter wsX4_readAfter rmX4_readAfter [.ref a_t, .ref a_q1, .ref a_q2] [oo a_t 4 [.int t_line, .int t_after, .int t_hours, .int t_gangs], oo a_q1 6 [.ref a_q1_bytes, .int q1_length, .int q1_tokenStart, .int q1_tokenEnd], ar E a_q1_bytes 400 q1_bytes, oo a_q2 2 [.ref a_q2_lineOf, .ref a_q2_after, .ref a_q2_hours, .ref a_q2_gangs, .ref a_q2_begins, .ref a_q2_done, .int q2_many], ar E a_q2_gangs 30 q2_gangs] [oo a_t 4 [.int t_line, .int out.2.1, .int out.2.2.1, .int t_gangs], oo a_q1 6 [.ref a_q1_bytes, .int q1_length, .int out.2.2.2.1, .int out.2.2.2.2], ar E a_q1_bytes 400 q1_bytes, oo a_q2 2 [.ref a_q2_lineOf, .ref a_q2_after, .ref a_q2_hours, .ref a_q2_gangs, .ref a_q2_begins, .ref a_q2_done, .int q2_many], ar E a_q2_gangs 30 q2_gangs] out.1 := by
  refine kmetI (T := Int32 × Int32 × Int32 × Int32 × Int32) (out := out) (wf := (fun (o : Int32 × Int32 × Int32 × Int32 × Int32) => [oo a_t 4 [.int t_line, .int o.2.1, .int o.2.2.1, .int t_gangs], oo a_q1 6 [.ref a_q1_bytes, .int q1_length, .int o.2.2.2.1, .int o.2.2.2.2], ar E a_q1_bytes 400 q1_bytes, oo a_q2 2 [.ref a_q2_lineOf, .ref a_q2_after, .ref a_q2_hours, .ref a_q2_gangs, .ref a_q2_begins, .ref a_q2_done, .int q2_many], ar E a_q2_gangs 30 q2_gangs])) (rf := (fun (o : Int32 × Int32 × Int32 × Int32 × Int32) => o.1)) (cc := cX4_readAfter) (maxL := 3) (ty := .boolean) (by decide) rfl (Nat.le_of_ble_eq_true rfl) ?_
  intro p e s m args below meth c A Q ls hx hb hml hts hown hE hP hD hS hA hl hret
  have hown : s.vm.findClass RX4 = some m.cls := hown
  have hK := hE.1
  have hl : lv_has ls 3 [(0, .ref a_t), (1, .ref a_q1), (2, .ref a_q2)] := hl
  have hP : va_P (kD E) vwCl [oo a_t 4 [.int t_line, .int t_after, .int t_hours, .int t_gangs], oo a_q1 6 [.ref a_q1_bytes, .int q1_length, .int q1_tokenStart, .int q1_tokenEnd], ar E a_q1_bytes 400 q1_bytes, oo a_q2 2 [.ref a_q2_lineOf, .ref a_q2_after, .ref a_q2_hours, .ref a_q2_gangs, .ref a_q2_begins, .ref a_q2_done, .int q2_many], ar E a_q2_gangs 30 q2_gangs] s.heap := hP
  have hD : va_D A [oo a_t 4 [.int t_line, .int t_after, .int t_hours, .int t_gangs], oo a_q1 6 [.ref a_q1_bytes, .int q1_length, .int q1_tokenStart, .int q1_tokenEnd], ar E a_q1_bytes 400 q1_bytes, oo a_q2 2 [.ref a_q2_lineOf, .ref a_q2_after, .ref a_q2_hours, .ref a_q2_gangs, .ref a_q2_begins, .ref a_q2_done, .int q2_many], ar E a_q2_gangs 30 q2_gangs] := hD
  have iX4 : ∀ w ∈ wsX40, w ∈ wsX4_readAfter := by decide +kernel
  have w1 := hts (.fieldLink RX4 15 "GaugeWeekend$Reader" "after" "I") (by decide +kernel)
  have w2 := hts (.fieldLink RX4 18 "GaugeWeekend$Reader" "hours" "I") (by decide +kernel)
  rw [mX4_readAfter] at h
  refine lv_aload_n hx hb dX4_readAfter_0 rfl (lv_at hl 0 rfl) ?_
  refine lv_aload_n hx hb dX4_readAfter_1 rfl (lv_at hl 1 rfl) ?_
  obtain ⟨o1, hc1, h⟩ := kbind h
  refine kciV (l := l) (E := E) (wc := [oo a_q1 6 [.ref a_q1_bytes, .int q1_length, .int q1_tokenStart, .int q1_tokenEnd], ar E a_q1_bytes 400 q1_bytes]) (w1 := [oo a_q1 6 [.ref a_q1_bytes, .int q1_length, .int q1_tokenStart, .int q1_tokenEnd], ar E a_q1_bytes 400 q1_bytes]) (w' := [oo a_t 4 [.int t_line, .int t_after, .int t_hours, .int t_gangs], oo a_q1 6 [.ref a_q1_bytes, .int q1_length, .int q1_tokenStart, .int q1_tokenEnd], ar E a_q1_bytes 400 q1_bytes, oo a_q2 2 [.ref a_q2_lineOf, .ref a_q2_after, .ref a_q2_hours, .ref a_q2_gangs, .ref a_q2_begins, .ref a_q2_done, .int q2_many], ar E a_q2_gangs 30 q2_gangs]) (ads := [a_q1, a_q1_bytes]) (r := o1) (As := []) (rest := [.ref a_t]) (kX6_number l E hc1) ⟨hx, hb, hml, hown, hts⟩ (cwV 0 hts gX4_readAfter_X6_number rfl rfl rfl (by decide +kernel) ⟨by decide, by decide⟩) hE hP hD hS hA [1, 2] (by decide) rfl rfl rfl rfl rfl rfl rfl rfl hl.1 rfl (Nat.le_of_ble_eq_true rfl) dX4_readAfter_2 ⟨Nat.zero_le _, Nat.zero_le _⟩ (fun H locs hP hD hS => ?_)
  refine kput (w' := [oo a_t 4 [.int t_line, .int o1, .int t_hours, .int t_gangs], oo a_q1 6 [.ref a_q1_bytes, .int q1_length, .int q1_tokenStart, .int q1_tokenEnd], ar E a_q1_bytes 400 q1_bytes, oo a_q2 2 [.ref a_q2_lineOf, .ref a_q2_after, .ref a_q2_hours, .ref a_q2_gangs, .ref a_q2_begins, .ref a_q2_done, .int q2_many], ar E a_q2_gangs 30 q2_gangs]) (E := E) (ci := 4) (v := .int o1) (ty := .int) (C := RX4) (T := TX4) (N := 4) hx hb hts iX4 tyX4 tyX4_ok nmX4 hown hK hP hD hS 0 rfl rfl 1 (by decide) w1 (fun _ h9 => h9) rfl (tyX4_ok 1 (by decide)) rfl rfl (Nat.le_of_ble_eq_true rfl) rfl dX4_readAfter_5 (fun H locs hP hD hS => ?_)
  refine lv_aload_n hx hb dX4_readAfter_8 rfl (lv_at hl 2 rfl) ?_
  refine lv_aload_n hx hb dX4_readAfter_9 rfl (lv_at hl 0 rfl) ?_
  refine va_get (D := kD E) (cl := vwCl) (tys := kT E) (ci := 4) (v := .int o1) (C := RX4) (T := TX4) (N := 4) hx hb hts iX4 hown hK hP 0 rfl rfl 1 (by decide) w1 (fun _ h9 => h9) rfl dX4_readAfter_10 ?_
  refine kciV (l := l) (E := E) (wc := [oo a_q2 2 [.ref a_q2_lineOf, .ref a_q2_after, .ref a_q2_hours, .ref a_q2_gangs, .ref a_q2_begins, .ref a_q2_done, .int q2_many], ar E a_q2_gangs 30 q2_gangs]) (w1 := [oo a_q2 2 [.ref a_q2_lineOf, .ref a_q2_after, .ref a_q2_hours, .ref a_q2_gangs, .ref a_q2_begins, .ref a_q2_done, .int q2_many], ar E a_q2_gangs 30 q2_gangs]) (w' := [oo a_t 4 [.int t_line, .int o1, .int t_hours, .int t_gangs], oo a_q1 6 [.ref a_q1_bytes, .int q1_length, .int q1_tokenStart, .int q1_tokenEnd], ar E a_q1_bytes 400 q1_bytes, oo a_q2 2 [.ref a_q2_lineOf, .ref a_q2_after, .ref a_q2_hours, .ref a_q2_gangs, .ref a_q2_begins, .ref a_q2_done, .int q2_many], ar E a_q2_gangs 30 q2_gangs]) (ads := [a_q2, a_q2_gangs]) (r := (mX2_hasOrder o1 q2_gangs)) (As := [.int o1]) (rest := []) (kX2_hasOrder l E rfl) ⟨hx, hb, hml, hown, hts⟩ (cwV 1 hts gX4_readAfter_X2_hasOrder rfl rfl rfl (by decide +kernel) ⟨by decide, by decide⟩) hE hP hD hS hA [3, 4] (by decide) rfl rfl rfl rfl rfl rfl rfl rfl hl.1 rfl (Nat.le_of_ble_eq_true rfl) dX4_readAfter_13 ⟨Nat.zero_le _, Nat.zero_le _⟩ (fun H locs hP hD hS => ?_)
  refine lv_if_ne (tgt := 21) hx hb dX4_readAfter_16 (by decide) (fun c_3 => ?_) (fun c_3 => ?_)
  · have h := (if_neg c_3).symm.trans h
    refine lv_aload_n hx hb dX4_readAfter_21 rfl (lv_at hl 1 rfl) ?_
    obtain ⟨o4, hc4, h⟩ := kbind h
    refine kcvV (l := l) (E := E) (wc := [oo a_q1 6 [.ref a_q1_bytes, .int q1_length, .int q1_tokenStart, .int q1_tokenEnd], ar E a_q1_bytes 400 q1_bytes]) (w1 := [oo a_q1 6 [.ref a_q1_bytes, .int q1_length, .int o4.1, .int o4.2], ar E a_q1_bytes 400 q1_bytes]) (w' := [oo a_t 4 [.int t_line, .int o1, .int t_hours, .int t_gangs], oo a_q1 6 [.ref a_q1_bytes, .int q1_length, .int o4.1, .int o4.2], ar E a_q1_bytes 400 q1_bytes, oo a_q2 2 [.ref a_q2_lineOf, .ref a_q2_after, .ref a_q2_hours, .ref a_q2_gangs, .ref a_q2_begins, .ref a_q2_done, .int q2_many], ar E a_q2_gangs 30 q2_gangs]) (ads := [a_q1, a_q1_bytes]) (As := []) (rest := []) (kX6_next l E hc4) ⟨hx, hb, hml, hown, hts⟩ (cwV 0 hts gX4_readAfter_X6_next rfl rfl rfl (by decide +kernel) ⟨by decide, by decide⟩) hE hP hD hS hA [1, 2] (by decide) rfl rfl rfl rfl rfl rfl rfl rfl hl.1 rfl (Nat.le_of_ble_eq_true rfl) dX4_readAfter_22 ⟨Nat.zero_le _, Nat.zero_le _⟩ (fun H locs hP hD hS => ?_)
    refine lv_aload_n hx hb dX4_readAfter_25 rfl (lv_at hl 0 rfl) ?_
    refine lv_aload_n hx hb dX4_readAfter_26 rfl (lv_at hl 1 rfl) ?_
    refine va_ldcS hx hb hown (hE.2.2.2.1 _ (kTx_4)) dX4_readAfter_27 ?_
    obtain ⟨o5, hc5, h⟩ := kbind h
    refine kciV (l := l) (E := E) (wc := [oo a_q1 6 [.ref a_q1_bytes, .int q1_length, .int o4.1, .int o4.2], ar E a_q1_bytes 400 q1_bytes]) (w1 := [oo a_q1 6 [.ref a_q1_bytes, .int q1_length, .int o5.2.1, .int o5.2.2], ar E a_q1_bytes 400 q1_bytes]) (w' := [oo a_t 4 [.int t_line, .int o1, .int t_hours, .int t_gangs], oo a_q1 6 [.ref a_q1_bytes, .int q1_length, .int o5.2.1, .int o5.2.2], ar E a_q1_bytes 400 q1_bytes, oo a_q2 2 [.ref a_q2_lineOf, .ref a_q2_after, .ref a_q2_hours, .ref a_q2_gangs, .ref a_q2_begins, .ref a_q2_done, .int q2_many], ar E a_q2_gangs 30 q2_gangs]) (ads := [a_q1, a_q1_bytes]) (r := o5.1) (As := [.ref (E.2.2.1 4)]) (rest := [.ref a_t]) (kX6_take l E (hp1 := (by decide)) hc5) ⟨hx, hb, hml, hown, hts⟩ (cwV 1 hts gX4_readAfter_X6_take rfl rfl rfl (by decide +kernel) ⟨by decide, by decide⟩) hE hP hD hS hA [1, 2] (by decide) rfl rfl rfl rfl rfl rfl rfl rfl hl.1 rfl (Nat.le_of_ble_eq_true rfl) dX4_readAfter_29 ⟨Nat.zero_le _, Nat.zero_le _⟩ (fun H locs hP hD hS => ?_)
    refine lv_if_eq (tgt := 45) hx hb dX4_readAfter_32 (by decide) (fun c_6 => ?_) (fun c_6 => ?_)
    · have h := (if_pos c_6).symm.trans h
      refine lv_iconst (v := (iI 0)) hx hb dX4_readAfter_45 (by decide) ?_
      refine kput (w' := [oo a_t 4 [.int t_line, .int o1, .int (iI 0), .int t_gangs], oo a_q1 6 [.ref a_q1_bytes, .int q1_length, .int o5.2.1, .int o5.2.2], ar E a_q1_bytes 400 q1_bytes, oo a_q2 2 [.ref a_q2_lineOf, .ref a_q2_after, .ref a_q2_hours, .ref a_q2_gangs, .ref a_q2_begins, .ref a_q2_done, .int q2_many], ar E a_q2_gangs 30 q2_gangs]) (E := E) (ci := 4) (v := .int (iI 0)) (ty := .int) (C := RX4) (T := TX4) (N := 4) hx hb hts iX4 tyX4 tyX4_ok nmX4 hown hK hP hD hS 0 rfl rfl 2 (by decide) w2 (fun _ h9 => h9) rfl (tyX4_ok 2 (by decide)) rfl rfl (Nat.le_of_ble_eq_true rfl) rfl dX4_readAfter_46 (fun H locs hP hD hS => ?_)
      refine lv_aload_n hx hb dX4_readAfter_49 rfl (lv_at hl 0 rfl) ?_
      refine va_get (D := kD E) (cl := vwCl) (tys := kT E) (ci := 4) (v := .int (iI 0)) (C := RX4) (T := TX4) (N := 4) hx hb hts iX4 hown hK hP 0 rfl rfl 2 (by decide) w2 (fun _ h9 => h9) rfl dX4_readAfter_50 ?_
      refine lv_iconst (v := (iI (-1))) hx hb dX4_readAfter_53 (by decide) ?_
      refine lv_icmp_eq (tgt := 61) hx hb dX4_readAfter_54 (by decide) (fun c_7 => ?_) (fun c_7 => ?_)
      · exact absurd c_7 (by decide)
      · refine lv_iconst (v := (iI 1)) hx hb dX4_readAfter_57 (by decide) ?_
        refine lv_goto (tgt := 62) hx hb dX4_readAfter_58 (by decide) ?_
        exact hret _ _ ((iI 1), o1, (iI 0), o5.2.1, o5.2.2) _ _ _ (Option.some.inj h) rfl rfl hP hS dX4_readAfter_62
    · have h := (if_neg c_6).symm.trans h
      refine lv_aload_n hx hb dX4_readAfter_35 rfl (lv_at hl 1 rfl) ?_
      refine lv_iconst (v := (iI 0)) hx hb dX4_readAfter_36 (by decide) ?_
      refine lv_bipush (v := (iI 99)) hx hb dX4_readAfter_37 (by decide) ?_
      obtain ⟨o8, hc8, h⟩ := kbind h
      refine kciV (l := l) (E := E) (wc := [oo a_q1 6 [.ref a_q1_bytes, .int q1_length, .int o5.2.1, .int o5.2.2], ar E a_q1_bytes 400 q1_bytes]) (w1 := [oo a_q1 6 [.ref a_q1_bytes, .int q1_length, .int o8.2.1, .int o8.2.2], ar E a_q1_bytes 400 q1_bytes]) (w' := [oo a_t 4 [.int t_line, .int o1, .int t_hours, .int t_gangs], oo a_q1 6 [.ref a_q1_bytes, .int q1_length, .int o8.2.1, .int o8.2.2], ar E a_q1_bytes 400 q1_bytes, oo a_q2 2 [.ref a_q2_lineOf, .ref a_q2_after, .ref a_q2_hours, .ref a_q2_gangs, .ref a_q2_begins, .ref a_q2_done, .int q2_many], ar E a_q2_gangs 30 q2_gangs]) (ads := [a_q1, a_q1_bytes]) (r := o8.1) (As := [.int (iI 0), .int (iI 99)]) (rest := [.ref a_t]) (kX6_takeNumber l E hc8) ⟨hx, hb, hml, hown, hts⟩ (cwV 2 hts gX4_readAfter_X6_takeNumber rfl rfl rfl (by decide +kernel) ⟨by decide, by decide⟩) hE hP hD hS hA [1, 2] (by decide) rfl rfl rfl rfl rfl rfl rfl rfl hl.1 rfl (Nat.le_of_ble_eq_true rfl) dX4_readAfter_39 ⟨Nat.zero_le _, Nat.zero_le _⟩ (fun H locs hP hD hS => ?_)
      refine lv_goto (tgt := 46) hx hb dX4_readAfter_42 (by decide) ?_
      refine kput (w' := [oo a_t 4 [.int t_line, .int o1, .int o8.1, .int t_gangs], oo a_q1 6 [.ref a_q1_bytes, .int q1_length, .int o8.2.1, .int o8.2.2], ar E a_q1_bytes 400 q1_bytes, oo a_q2 2 [.ref a_q2_lineOf, .ref a_q2_after, .ref a_q2_hours, .ref a_q2_gangs, .ref a_q2_begins, .ref a_q2_done, .int q2_many], ar E a_q2_gangs 30 q2_gangs]) (E := E) (ci := 4) (v := .int o8.1) (ty := .int) (C := RX4) (T := TX4) (N := 4) hx hb hts iX4 tyX4 tyX4_ok nmX4 hown hK hP hD hS 0 rfl rfl 2 (by decide) w2 (fun _ h9 => h9) rfl (tyX4_ok 2 (by decide)) rfl rfl (Nat.le_of_ble_eq_true rfl) rfl dX4_readAfter_46 (fun H locs hP hD hS => ?_)
      refine lv_aload_n hx hb dX4_readAfter_49 rfl (lv_at hl 0 rfl) ?_
      refine va_get (D := kD E) (cl := vwCl) (tys := kT E) (ci := 4) (v := .int o8.1) (C := RX4) (T := TX4) (N := 4) hx hb hts iX4 hown hK hP 0 rfl rfl 2 (by decide) w2 (fun _ h9 => h9) rfl dX4_readAfter_50 ?_
      refine lv_iconst (v := (iI (-1))) hx hb dX4_readAfter_53 (by decide) ?_
      refine lv_icmp_eq (tgt := 61) hx hb dX4_readAfter_54 (by decide) (fun c_9 => ?_) (fun c_9 => ?_)
      · have h := (if_pos c_9).symm.trans h
        refine lv_iconst (v := (iI 0)) hx hb dX4_readAfter_61 (by decide) ?_
        exact hret _ _ ((iI 0), o1, o8.1, o8.2.1, o8.2.2) _ _ _ (Option.some.inj h) rfl rfl hP hS dX4_readAfter_62
      · have h := (if_neg c_9).symm.trans h
        refine lv_iconst (v := (iI 1)) hx hb dX4_readAfter_57 (by decide) ?_
        refine lv_goto (tgt := 62) hx hb dX4_readAfter_58 (by decide) ?_
        exact hret _ _ ((iI 1), o1, o8.1, o8.2.1, o8.2.2) _ _ _ (Option.some.inj h) rfl rfl hP hS dX4_readAfter_62
  · have h := (if_pos c_3).symm.trans h
    refine lv_iconst (v := (iI 0)) hx hb dX4_readAfter_19 (by decide) ?_
    exact hret _ _ ((iI 0), o1, t_hours, q1_tokenStart, q1_tokenEnd) _ _ _ (Option.some.inj h) rfl rfl hP hS dX4_readAfter_20
abbrev rmX4_readStart : Room := { frames := 7, cells := 0, slots := 0, locals := 153 }
set_option maxHeartbeats 4000000 in
set_option maxRecDepth 100000 in
theorem kX4_readStart (l : Launch) (E : KE) {a_t : Nat} {a_q1 : Nat} {a_q1_bytes : Nat} {a_q2 : Nat} {a_q2_lineOf : Nat} {a_q2_after : Nat} {a_q2_hours : Nat} {a_q2_gangs : Nat} {a_q2_begins : Nat} {a_q2_done : Nat} {t_line : Int32} {t_after : Int32} {t_hours : Int32} {t_gangs : Int32} {q1_length : Int32} {q1_tokenStart : Int32} {q1_tokenEnd : Int32} {q1_bytes : Nat → Int32} {q2_many : Int32} {q2_gangs : Nat → Int32} {out : Int32 × Int32 × Int32 × Int32 × Int32} (h : mX4_readStart t_after t_hours q1_length q1_tokenStart q1_tokenEnd q1_bytes q2_gangs = some out) : KI l E yX4_readStart wsX4_readStart rmX4_readStart [.ref a_t, .ref a_q1, .ref a_q2] [oo a_t 4 [.int t_line, .int t_after, .int t_hours, .int t_gangs], oo a_q1 6 [.ref a_q1_bytes, .int q1_length, .int q1_tokenStart, .int q1_tokenEnd], ar E a_q1_bytes 400 q1_bytes, oo a_q2 2 [.ref a_q2_lineOf, .ref a_q2_after, .ref a_q2_hours, .ref a_q2_gangs, .ref a_q2_begins, .ref a_q2_done, .int q2_many], ar E a_q2_gangs 30 q2_gangs] [oo a_t 4 [.int t_line, .int out.2.1, .int out.2.2.1, .int t_gangs], oo a_q1 6 [.ref a_q1_bytes, .int q1_length, .int out.2.2.2.1, .int out.2.2.2.2], ar E a_q1_bytes 400 q1_bytes, oo a_q2 2 [.ref a_q2_lineOf, .ref a_q2_after, .ref a_q2_hours, .ref a_q2_gangs, .ref a_q2_begins, .ref a_q2_done, .int q2_many], ar E a_q2_gangs 30 q2_gangs] out.1 := by
  refine kmetI (T := Int32 × Int32 × Int32 × Int32 × Int32) (out := out) (wf := (fun (o : Int32 × Int32 × Int32 × Int32 × Int32) => [oo a_t 4 [.int t_line, .int o.2.1, .int o.2.2.1, .int t_gangs], oo a_q1 6 [.ref a_q1_bytes, .int q1_length, .int o.2.2.2.1, .int o.2.2.2.2], ar E a_q1_bytes 400 q1_bytes, oo a_q2 2 [.ref a_q2_lineOf, .ref a_q2_after, .ref a_q2_hours, .ref a_q2_gangs, .ref a_q2_begins, .ref a_q2_done, .int q2_many], ar E a_q2_gangs 30 q2_gangs])) (rf := (fun (o : Int32 × Int32 × Int32 × Int32 × Int32) => o.1)) (cc := cX4_readStart) (maxL := 3) (ty := .boolean) (by decide) rfl (Nat.le_of_ble_eq_true rfl) ?_
  intro p e s m args below meth c A Q ls hx hb hml hts hown hE hP hD hS hA hl hret
  have hown : s.vm.findClass RX4 = some m.cls := hown
  have hK := hE.1
  have hl : lv_has ls 3 [(0, .ref a_t), (1, .ref a_q1), (2, .ref a_q2)] := hl
  have hP : va_P (kD E) vwCl [oo a_t 4 [.int t_line, .int t_after, .int t_hours, .int t_gangs], oo a_q1 6 [.ref a_q1_bytes, .int q1_length, .int q1_tokenStart, .int q1_tokenEnd], ar E a_q1_bytes 400 q1_bytes, oo a_q2 2 [.ref a_q2_lineOf, .ref a_q2_after, .ref a_q2_hours, .ref a_q2_gangs, .ref a_q2_begins, .ref a_q2_done, .int q2_many], ar E a_q2_gangs 30 q2_gangs] s.heap := hP
  have hD : va_D A [oo a_t 4 [.int t_line, .int t_after, .int t_hours, .int t_gangs], oo a_q1 6 [.ref a_q1_bytes, .int q1_length, .int q1_tokenStart, .int q1_tokenEnd], ar E a_q1_bytes 400 q1_bytes, oo a_q2 2 [.ref a_q2_lineOf, .ref a_q2_after, .ref a_q2_hours, .ref a_q2_gangs, .ref a_q2_begins, .ref a_q2_done, .int q2_many], ar E a_q2_gangs 30 q2_gangs] := hD
  have iX4 : ∀ w ∈ wsX40, w ∈ wsX4_readStart := by decide +kernel
  have w1 := hts (.fieldLink RX4 15 "GaugeWeekend$Reader" "after" "I") (by decide +kernel)
  have w2 := hts (.fieldLink RX4 18 "GaugeWeekend$Reader" "hours" "I") (by decide +kernel)
  rw [mX4_readStart] at h
  refine lv_aload_n hx hb dX4_readStart_0 rfl (lv_at hl 1 rfl) ?_
  refine va_ldcS hx hb hown (hE.2.2.2.1 _ (kTx_2)) dX4_readStart_1 ?_
  obtain ⟨o1, hc1, h⟩ := kbind h
  refine kciV (l := l) (E := E) (wc := [oo a_q1 6 [.ref a_q1_bytes, .int q1_length, .int q1_tokenStart, .int q1_tokenEnd], ar E a_q1_bytes 400 q1_bytes]) (w1 := [oo a_q1 6 [.ref a_q1_bytes, .int q1_length, .int o1.2.1, .int o1.2.2], ar E a_q1_bytes 400 q1_bytes]) (w' := [oo a_t 4 [.int t_line, .int t_after, .int t_hours, .int t_gangs], oo a_q1 6 [.ref a_q1_bytes, .int q1_length, .int o1.2.1, .int o1.2.2], ar E a_q1_bytes 400 q1_bytes, oo a_q2 2 [.ref a_q2_lineOf, .ref a_q2_after, .ref a_q2_hours, .ref a_q2_gangs, .ref a_q2_begins, .ref a_q2_done, .int q2_many], ar E a_q2_gangs 30 q2_gangs]) (ads := [a_q1, a_q1_bytes]) (r := o1.1) (As := [.ref (E.2.2.1 2)]) (rest := []) (kX6_take l E (hp1 := (by decide)) hc1) ⟨hx, hb, hml, hown, hts⟩ (cwV 1 hts gX4_readStart_X6_take rfl rfl rfl (by decide +kernel) ⟨by decide, by decide⟩) hE hP hD hS hA [1, 2] (by decide) rfl rfl rfl rfl rfl rfl rfl rfl hl.1 rfl (Nat.le_of_ble_eq_true rfl) dX4_readStart_3 ⟨Nat.zero_le _, Nat.zero_le _⟩ (fun H locs hP hD hS => ?_)
  refine lv_if_eq (tgt := 39) hx hb dX4_readStart_6 (by decide) (fun c_2 => ?_) (fun c_2 => ?_)
  · have h := (if_pos c_2).symm.trans h
    refine lv_aload_n hx hb dX4_readStart_39 rfl (lv_at hl 1 rfl) ?_
    refine va_ldcS hx hb hown (hE.2.2.2.1 _ (kTx_3)) dX4_readStart_40 ?_
    obtain ⟨o3, hc3, h⟩ := kbind h
    refine kciV (l := l) (E := E) (wc := [oo a_q1 6 [.ref a_q1_bytes, .int q1_length, .int o1.2.1, .int o1.2.2], ar E a_q1_bytes 400 q1_bytes]) (w1 := [oo a_q1 6 [.ref a_q1_bytes, .int q1_length, .int o3.2.1, .int o3.2.2], ar E a_q1_bytes 400 q1_bytes]) (w' := [oo a_t 4 [.int t_line, .int t_after, .int t_hours, .int t_gangs], oo a_q1 6 [.ref a_q1_bytes, .int q1_length, .int o3.2.1, .int o3.2.2], ar E a_q1_bytes 400 q1_bytes, oo a_q2 2 [.ref a_q2_lineOf, .ref a_q2_after, .ref a_q2_hours, .ref a_q2_gangs, .ref a_q2_begins, .ref a_q2_done, .int q2_many], ar E a_q2_gangs 30 q2_gangs]) (ads := [a_q1, a_q1_bytes]) (r := o3.1) (As := [.ref (E.2.2.1 3)]) (rest := []) (kX6_take l E (hp1 := (by decide)) hc3) ⟨hx, hb, hml, hown, hts⟩ (cwV 1 hts gX4_readStart_X6_take rfl rfl rfl (by decide +kernel) ⟨by decide, by decide⟩) hE hP hD hS hA [1, 2] (by decide) rfl rfl rfl rfl rfl rfl rfl rfl hl.1 rfl (Nat.le_of_ble_eq_true rfl) dX4_readStart_42 ⟨Nat.zero_le _, Nat.zero_le _⟩ (fun H locs hP hD hS => ?_)
    refine lv_if_eq (tgt := 61) hx hb dX4_readStart_45 (by decide) (fun c_4 => ?_) (fun c_4 => ?_)
    · have h := (if_pos c_4).symm.trans h
      refine lv_iconst (v := (iI 0)) hx hb dX4_readStart_61 (by decide) ?_
      exact hret _ _ ((iI 0), t_after, t_hours, o3.2.1, o3.2.2) _ _ _ (Option.some.inj h) rfl rfl hP hS dX4_readStart_62
    · have h := (if_neg c_4).symm.trans h
      refine lv_aload_n hx hb dX4_readStart_48 rfl (lv_at hl 0 rfl) ?_
      refine lv_aload_n hx hb dX4_readStart_49 rfl (lv_at hl 1 rfl) ?_
      refine lv_aload_n hx hb dX4_readStart_50 rfl (lv_at hl 2 rfl) ?_
      obtain ⟨o5, hc5, h⟩ := kbind h
      refine kciV (l := l) (E := E) (wc := [oo a_t 4 [.int t_line, .int t_after, .int t_hours, .int t_gangs], oo a_q1 6 [.ref a_q1_bytes, .int q1_length, .int o3.2.1, .int o3.2.2], ar E a_q1_bytes 400 q1_bytes, oo a_q2 2 [.ref a_q2_lineOf, .ref a_q2_after, .ref a_q2_hours, .ref a_q2_gangs, .ref a_q2_begins, .ref a_q2_done, .int q2_many], ar E a_q2_gangs 30 q2_gangs]) (w1 := [oo a_t 4 [.int t_line, .int o5.2.1, .int o5.2.2.1, .int t_gangs], oo a_q1 6 [.ref a_q1_bytes, .int q1_length, .int o5.2.2.2.1, .int o5.2.2.2.2], ar E a_q1_bytes 400 q1_bytes, oo a_q2 2 [.ref a_q2_lineOf, .ref a_q2_after, .ref a_q2_hours, .ref a_q2_gangs, .ref a_q2_begins, .ref a_q2_done, .int q2_many], ar E a_q2_gangs 30 q2_gangs]) (w' := [oo a_t 4 [.int t_line, .int o5.2.1, .int o5.2.2.1, .int t_gangs], oo a_q1 6 [.ref a_q1_bytes, .int q1_length, .int o5.2.2.2.1, .int o5.2.2.2.2], ar E a_q1_bytes 400 q1_bytes, oo a_q2 2 [.ref a_q2_lineOf, .ref a_q2_after, .ref a_q2_hours, .ref a_q2_gangs, .ref a_q2_begins, .ref a_q2_done, .int q2_many], ar E a_q2_gangs 30 q2_gangs]) (ads := [a_t, a_q1, a_q1_bytes, a_q2, a_q2_gangs]) (r := o5.1) (As := [.ref a_q1, .ref a_q2]) (rest := []) (kX4_readAfter l E hc5) ⟨hx, hb, hml, hown, hts⟩ (cwV 2 hts gX4_readStart_X4_readAfter rfl rfl rfl (by decide +kernel) ⟨by decide, by decide⟩) hE hP hD hS hA [0, 1, 2, 3, 4] (by decide) rfl rfl rfl rfl rfl rfl rfl rfl hl.1 rfl (Nat.le_of_ble_eq_true rfl) dX4_readStart_51 ⟨Nat.zero_le _, Nat.zero_le _⟩ (fun H locs hP hD hS => ?_)
      refine lv_if_eq (tgt := 61) hx hb dX4_readStart_54 (by decide) (fun c_6 => ?_) (fun c_6 => ?_)
      · have h := (if_pos c_6).symm.trans h
        refine lv_iconst (v := (iI 0)) hx hb dX4_readStart_61 (by decide) ?_
        exact hret _ _ ((iI 0), o5.2.1, o5.2.2.1, o5.2.2.2.1, o5.2.2.2.2) _ _ _ (Option.some.inj h) rfl rfl hP hS dX4_readStart_62
      · have h := (if_neg c_6).symm.trans h
        refine lv_iconst (v := (iI 1)) hx hb dX4_readStart_57 (by decide) ?_
        refine lv_goto (tgt := 62) hx hb dX4_readStart_58 (by decide) ?_
        exact hret _ _ ((iI 1), o5.2.1, o5.2.2.1, o5.2.2.2.1, o5.2.2.2.2) _ _ _ (Option.some.inj h) rfl rfl hP hS dX4_readStart_62
  · have h := (if_neg c_2).symm.trans h
    refine lv_aload_n hx hb dX4_readStart_9 rfl (lv_at hl 0 rfl) ?_
    refine lv_iconst (v := (iI (-1))) hx hb dX4_readStart_10 (by decide) ?_
    refine kput (w' := [oo a_t 4 [.int t_line, .int (iI (-1)), .int t_hours, .int t_gangs], oo a_q1 6 [.ref a_q1_bytes, .int q1_length, .int o1.2.1, .int o1.2.2], ar E a_q1_bytes 400 q1_bytes, oo a_q2 2 [.ref a_q2_lineOf, .ref a_q2_after, .ref a_q2_hours, .ref a_q2_gangs, .ref a_q2_begins, .ref a_q2_done, .int q2_many], ar E a_q2_gangs 30 q2_gangs]) (E := E) (ci := 4) (v := .int (iI (-1))) (ty := .int) (C := RX4) (T := TX4) (N := 4) hx hb hts iX4 tyX4 tyX4_ok nmX4 hown hK hP hD hS 0 rfl rfl 1 (by decide) w1 (fun _ h9 => h9) rfl (tyX4_ok 1 (by decide)) rfl rfl (Nat.le_of_ble_eq_true rfl) rfl dX4_readStart_11 (fun H locs hP hD hS => ?_)
    refine lv_aload_n hx hb dX4_readStart_14 rfl (lv_at hl 0 rfl) ?_
    refine lv_aload_n hx hb dX4_readStart_15 rfl (lv_at hl 1 rfl) ?_
    refine lv_iconst (v := (iI 0)) hx hb dX4_readStart_16 (by decide) ?_
    refine lv_bipush (v := (iI 100)) hx hb dX4_readStart_17 (by decide) ?_
    obtain ⟨o7, hc7, h⟩ := kbind h
    refine kciV (l := l) (E := E) (wc := [oo a_q1 6 [.ref a_q1_bytes, .int q1_length, .int o1.2.1, .int o1.2.2], ar E a_q1_bytes 400 q1_bytes]) (w1 := [oo a_q1 6 [.ref a_q1_bytes, .int q1_length, .int o7.2.1, .int o7.2.2], ar E a_q1_bytes 400 q1_bytes]) (w' := [oo a_t 4 [.int t_line, .int (iI (-1)), .int t_hours, .int t_gangs], oo a_q1 6 [.ref a_q1_bytes, .int q1_length, .int o7.2.1, .int o7.2.2], ar E a_q1_bytes 400 q1_bytes, oo a_q2 2 [.ref a_q2_lineOf, .ref a_q2_after, .ref a_q2_hours, .ref a_q2_gangs, .ref a_q2_begins, .ref a_q2_done, .int q2_many], ar E a_q2_gangs 30 q2_gangs]) (ads := [a_q1, a_q1_bytes]) (r := o7.1) (As := [.int (iI 0), .int (iI 100)]) (rest := [.ref a_t]) (kX6_takeNumber l E hc7) ⟨hx, hb, hml, hown, hts⟩ (cwV 2 hts gX4_readStart_X6_takeNumber rfl rfl rfl (by decide +kernel) ⟨by decide, by decide⟩) hE hP hD hS hA [1, 2] (by decide) rfl rfl rfl rfl rfl rfl rfl rfl hl.1 rfl (Nat.le_of_ble_eq_true rfl) dX4_readStart_19 ⟨Nat.zero_le _, Nat.zero_le _⟩ (fun H locs hP hD hS => ?_)
    refine kput (w' := [oo a_t 4 [.int t_line, .int (iI (-1)), .int o7.1, .int t_gangs], oo a_q1 6 [.ref a_q1_bytes, .int q1_length, .int o7.2.1, .int o7.2.2], ar E a_q1_bytes 400 q1_bytes, oo a_q2 2 [.ref a_q2_lineOf, .ref a_q2_after, .ref a_q2_hours, .ref a_q2_gangs, .ref a_q2_begins, .ref a_q2_done, .int q2_many], ar E a_q2_gangs 30 q2_gangs]) (E := E) (ci := 4) (v := .int o7.1) (ty := .int) (C := RX4) (T := TX4) (N := 4) hx hb hts iX4 tyX4 tyX4_ok nmX4 hown hK hP hD hS 0 rfl rfl 2 (by decide) w2 (fun _ h9 => h9) rfl (tyX4_ok 2 (by decide)) rfl rfl (Nat.le_of_ble_eq_true rfl) rfl dX4_readStart_22 (fun H locs hP hD hS => ?_)
    refine lv_aload_n hx hb dX4_readStart_25 rfl (lv_at hl 0 rfl) ?_
    refine va_get (D := kD E) (cl := vwCl) (tys := kT E) (ci := 4) (v := .int o7.1) (C := RX4) (T := TX4) (N := 4) hx hb hts iX4 hown hK hP 0 rfl rfl 2 (by decide) w2 (fun _ h9 => h9) rfl dX4_readStart_26 ?_
    refine lv_iconst (v := (iI (-1))) hx hb dX4_readStart_29 (by decide) ?_
    refine lv_icmp_eq (tgt := 37) hx hb dX4_readStart_30 (by decide) (fun c_8 => ?_) (fun c_8 => ?_)
    · have h := (if_pos c_8).symm.trans h
      refine lv_iconst (v := (iI 0)) hx hb dX4_readStart_37 (by decide) ?_
      exact hret _ _ ((iI 0), (iI (-1)), o7.1, o7.2.1, o7.2.2) _ _ _ (Option.some.inj h) rfl rfl hP hS dX4_readStart_38
    · have h := (if_neg c_8).symm.trans h
      refine lv_iconst (v := (iI 1)) hx hb dX4_readStart_33 (by decide) ?_
      refine lv_goto (tgt := 38) hx hb dX4_readStart_34 (by decide) ?_
      exact hret _ _ ((iI 1), (iI (-1)), o7.1, o7.2.1, o7.2.2) _ _ _ (Option.some.inj h) rfl rfl hP hS dX4_readStart_38
abbrev rmX4_readGangs : Room := { frames := 6, cells := 0, slots := 0, locals := 131 }
set_option maxHeartbeats 4000000 in
set_option maxRecDepth 100000 in
theorem kX4_readGangs (l : Launch) (E : KE) {a_t : Nat} {a_q1 : Nat} {a_q1_bytes : Nat} {t_line : Int32} {t_after : Int32} {t_hours : Int32} {t_gangs : Int32} {q1_length : Int32} {q1_tokenStart : Int32} {q1_tokenEnd : Int32} {q1_bytes : Nat → Int32} {out : Int32 × Int32 × Int32 × Int32} (h : mX4_readGangs t_gangs q1_length q1_tokenStart q1_tokenEnd q1_bytes = some out) : KI l E yX4_readGangs wsX4_readGangs rmX4_readGangs [.ref a_t, .ref a_q1] [oo a_t 4 [.int t_line, .int t_after, .int t_hours, .int t_gangs], oo a_q1 6 [.ref a_q1_bytes, .int q1_length, .int q1_tokenStart, .int q1_tokenEnd], ar E a_q1_bytes 400 q1_bytes] [oo a_t 4 [.int t_line, .int t_after, .int t_hours, .int out.2.1], oo a_q1 6 [.ref a_q1_bytes, .int q1_length, .int out.2.2.1, .int out.2.2.2], ar E a_q1_bytes 400 q1_bytes] out.1 := by
  refine kmetI (T := Int32 × Int32 × Int32 × Int32) (out := out) (wf := (fun (o : Int32 × Int32 × Int32 × Int32) => [oo a_t 4 [.int t_line, .int t_after, .int t_hours, .int o.2.1], oo a_q1 6 [.ref a_q1_bytes, .int q1_length, .int o.2.2.1, .int o.2.2.2], ar E a_q1_bytes 400 q1_bytes])) (rf := (fun (o : Int32 × Int32 × Int32 × Int32) => o.1)) (cc := cX4_readGangs) (maxL := 2) (ty := .boolean) (by decide) rfl (Nat.le_of_ble_eq_true rfl) ?_
  intro p e s m args below meth c A Q ls hx hb hml hts hown hE hP hD hS hA hl hret
  have hown : s.vm.findClass RX4 = some m.cls := hown
  have hK := hE.1
  have hl : lv_has ls 2 [(0, .ref a_t), (1, .ref a_q1)] := hl
  have hP : va_P (kD E) vwCl [oo a_t 4 [.int t_line, .int t_after, .int t_hours, .int t_gangs], oo a_q1 6 [.ref a_q1_bytes, .int q1_length, .int q1_tokenStart, .int q1_tokenEnd], ar E a_q1_bytes 400 q1_bytes] s.heap := hP
  have hD : va_D A [oo a_t 4 [.int t_line, .int t_after, .int t_hours, .int t_gangs], oo a_q1 6 [.ref a_q1_bytes, .int q1_length, .int q1_tokenStart, .int q1_tokenEnd], ar E a_q1_bytes 400 q1_bytes] := hD
  have iX4 : ∀ w ∈ wsX40, w ∈ wsX4_readGangs := by decide +kernel
  have w1 := hts (.fieldLink RX4 21 "GaugeWeekend$Reader" "gangs" "I") (by decide +kernel)
  rw [mX4_readGangs] at h
  refine lv_aload_n hx hb dX4_readGangs_0 rfl (lv_at hl 1 rfl) ?_
  refine va_ldcS hx hb hown (hE.2.2.2.1 _ (kTx_5)) dX4_readGangs_1 ?_
  obtain ⟨o1, hc1, h⟩ := kbind h
  refine kciV (l := l) (E := E) (wc := [oo a_q1 6 [.ref a_q1_bytes, .int q1_length, .int q1_tokenStart, .int q1_tokenEnd], ar E a_q1_bytes 400 q1_bytes]) (w1 := [oo a_q1 6 [.ref a_q1_bytes, .int q1_length, .int o1.2.1, .int o1.2.2], ar E a_q1_bytes 400 q1_bytes]) (w' := [oo a_t 4 [.int t_line, .int t_after, .int t_hours, .int t_gangs], oo a_q1 6 [.ref a_q1_bytes, .int q1_length, .int o1.2.1, .int o1.2.2], ar E a_q1_bytes 400 q1_bytes]) (ads := [a_q1, a_q1_bytes]) (r := o1.1) (As := [.ref (E.2.2.1 5)]) (rest := []) (kX6_take l E (hp1 := (by decide)) hc1) ⟨hx, hb, hml, hown, hts⟩ (cwV 1 hts gX4_readGangs_X6_take rfl rfl rfl (by decide +kernel) ⟨by decide, by decide⟩) hE hP hD hS hA [1, 2] (by decide) rfl rfl rfl rfl rfl rfl rfl rfl hl.1 rfl (Nat.le_of_ble_eq_true rfl) dX4_readGangs_3 ⟨Nat.zero_le _, Nat.zero_le _⟩ (fun H locs hP hD hS => ?_)
  refine lv_if_ne (tgt := 11) hx hb dX4_readGangs_6 (by decide) (fun c_2 => ?_) (fun c_2 => ?_)
  · have h := (if_neg c_2).symm.trans h
    refine lv_aload_n hx hb dX4_readGangs_11 rfl (lv_at hl 0 rfl) ?_
    refine lv_aload_n hx hb dX4_readGangs_12 rfl (lv_at hl 1 rfl) ?_
    refine lv_iconst (v := (iI 1)) hx hb dX4_readGangs_13 (by decide) ?_
    refine lv_bipush (v := (iI 99)) hx hb dX4_readGangs_14 (by decide) ?_
    obtain ⟨o3, hc3, h⟩ := kbind h
    refine kciV (l := l) (E := E) (wc := [oo a_q1 6 [.ref a_q1_bytes, .int q1_length, .int o1.2.1, .int o1.2.2], ar E a_q1_bytes 400 q1_bytes]) (w1 := [oo a_q1 6 [.ref a_q1_bytes, .int q1_length, .int o3.2.1, .int o3.2.2], ar E a_q1_bytes 400 q1_bytes]) (w' := [oo a_t 4 [.int t_line, .int t_after, .int t_hours, .int t_gangs], oo a_q1 6 [.ref a_q1_bytes, .int q1_length, .int o3.2.1, .int o3.2.2], ar E a_q1_bytes 400 q1_bytes]) (ads := [a_q1, a_q1_bytes]) (r := o3.1) (As := [.int (iI 1), .int (iI 99)]) (rest := [.ref a_t]) (kX6_takeNumber l E hc3) ⟨hx, hb, hml, hown, hts⟩ (cwV 2 hts gX4_readGangs_X6_takeNumber rfl rfl rfl (by decide +kernel) ⟨by decide, by decide⟩) hE hP hD hS hA [1, 2] (by decide) rfl rfl rfl rfl rfl rfl rfl rfl hl.1 rfl (Nat.le_of_ble_eq_true rfl) dX4_readGangs_16 ⟨Nat.zero_le _, Nat.zero_le _⟩ (fun H locs hP hD hS => ?_)
    refine kput (w' := [oo a_t 4 [.int t_line, .int t_after, .int t_hours, .int o3.1], oo a_q1 6 [.ref a_q1_bytes, .int q1_length, .int o3.2.1, .int o3.2.2], ar E a_q1_bytes 400 q1_bytes]) (E := E) (ci := 4) (v := .int o3.1) (ty := .int) (C := RX4) (T := TX4) (N := 4) hx hb hts iX4 tyX4 tyX4_ok nmX4 hown hK hP hD hS 0 rfl rfl 3 (by decide) w1 (fun _ h9 => h9) rfl (tyX4_ok 3 (by decide)) rfl rfl (Nat.le_of_ble_eq_true rfl) rfl dX4_readGangs_19 (fun H locs hP hD hS => ?_)
    refine lv_aload_n hx hb dX4_readGangs_22 rfl (lv_at hl 0 rfl) ?_
    refine va_get (D := kD E) (cl := vwCl) (tys := kT E) (ci := 4) (v := .int o3.1) (C := RX4) (T := TX4) (N := 4) hx hb hts iX4 hown hK hP 0 rfl rfl 3 (by decide) w1 (fun _ h9 => h9) rfl dX4_readGangs_23 ?_
    refine lv_iconst (v := (iI (-1))) hx hb dX4_readGangs_26 (by decide) ?_
    refine lv_icmp_eq (tgt := 34) hx hb dX4_readGangs_27 (by decide) (fun c_4 => ?_) (fun c_4 => ?_)
    · have h := (if_pos c_4).symm.trans h
      refine lv_iconst (v := (iI 0)) hx hb dX4_readGangs_34 (by decide) ?_
      exact hret _ _ ((iI 0), o3.1, o3.2.1, o3.2.2) _ _ _ (Option.some.inj h) rfl rfl hP hS dX4_readGangs_35
    · have h := (if_neg c_4).symm.trans h
      refine lv_iconst (v := (iI 1)) hx hb dX4_readGangs_30 (by decide) ?_
      refine lv_goto (tgt := 35) hx hb dX4_readGangs_31 (by decide) ?_
      exact hret _ _ ((iI 1), o3.1, o3.2.1, o3.2.2) _ _ _ (Option.some.inj h) rfl rfl hP hS dX4_readGangs_35
  · have h := (if_pos c_2).symm.trans h
    refine lv_iconst (v := (iI 0)) hx hb dX4_readGangs_9 (by decide) ?_
    exact hret _ _ ((iI 0), t_gangs, o1.2.1, o1.2.2) _ _ _ (Option.some.inj h) rfl rfl hP hS dX4_readGangs_10
abbrev rmX4_readOrders : Room := { frames := 8, cells := 0, slots := 0, locals := 175 }
set_option maxHeartbeats 4000000 in
set_option maxRecDepth 100000 in
theorem kX4_readOrders (l : Launch) (E : KE) {a_t : Nat} {a_q1 : Nat} {a_q1_bytes : Nat} {a_q2 : Nat} {a_q2_oneEnd : Nat} {a_q2_otherEnd : Nat} {a_q2_miles : Nat} {a_q2_hours : Nat} {a_q2_spikesSet : Nat} {a_q3 : Nat} {a_q3_lineOf : Nat} {a_q3_after : Nat} {a_q3_hours : Nat} {a_q3_gangs : Nat} {a_q3_begins : Nat} {a_q3_done : Nat} {t_line : Int32} {t_after : Int32} {t_hours : Int32} {t_gangs : Int32} {q1_length : Int32} {q1_tokenStart : Int32} {q1_tokenEnd : Int32} {q1_bytes : Nat → Int32} {q2_many : Int32} {q2_rateOfSet : Int32} {q2_rateOfOthers : Int32} {q3_many : Int32} {q3_after : Nat → Int32} {q3_begins : Nat → Int32} {q3_done : Nat → Int32} {q3_gangs : Nat → Int32} {q3_hours : Nat → Int32} {q3_lineOf : Nat → Int32} {out : Int32 × Int32 × Int32 × Int32 × Int32 × Int32 × Int32 × Int32 × (Nat → Int32) × (Nat → Int32) × (Nat → Int32) × (Nat → Int32) × (Nat → Int32) × (Nat → Int32)} (h : mX4_readOrders t_line t_after t_hours t_gangs q1_length q1_bytes q2_many q3_after q3_begins q3_done q3_gangs q3_hours q3_lineOf = some out) : KI l E yX4_readOrders wsX4_readOrders rmX4_readOrders [.ref a_t, .ref a_q1, .ref a_q2, .ref a_q3] [oo a_t 4 [.int t_line, .int t_after, .int t_hours, .int t_gangs], oo a_q1 6 [.ref a_q1_bytes, .int q1_length, .int q1_tokenStart, .int q1_tokenEnd], ar E a_q1_bytes 400 q1_bytes, oo a_q2 1 [.ref a_q2_oneEnd, .ref a_q2_otherEnd, .ref a_q2_miles, .ref a_q2_hours, .ref a_q2_spikesSet, .int q2_many, .int q2_rateOfSet, .int q2_rateOfOthers], oo a_q3 2 [.ref a_q3_lineOf, .ref a_q3_after, .ref a_q3_hours, .ref a_q3_gangs, .ref a_q3_begins, .ref a_q3_done, .int q3_many], ar E a_q3_after 30 q3_after, ar E a_q3_begins 30 q3_begins, ar E a_q3_done 30 q3_done, ar E a_q3_gangs 30 q3_gangs, ar E a_q3_hours 30 q3_hours, ar E a_q3_lineOf 30 q3_lineOf] [oo a_t 4 [.int out.2.1, .int out.2.2.1, .int out.2.2.2.1, .int out.2.2.2.2.1], oo a_q1 6 [.ref a_q1_bytes, .int q1_length, .int out.2.2.2.2.2.1, .int out.2.2.2.2.2.2.1], ar E a_q1_bytes 400 q1_bytes, oo a_q2 1 [.ref a_q2_oneEnd, .ref a_q2_otherEnd, .ref a_q2_miles, .ref a_q2_hours, .ref a_q2_spikesSet, .int q2_many, .int q2_rateOfSet, .int q2_rateOfOthers], oo a_q3 2 [.ref a_q3_lineOf, .ref a_q3_after, .ref a_q3_hours, .ref a_q3_gangs, .ref a_q3_begins, .ref a_q3_done, .int out.2.2.2.2.2.2.2.1], ar E a_q3_after 30 out.2.2.2.2.2.2.2.2.1, ar E a_q3_begins 30 out.2.2.2.2.2.2.2.2.2.1, ar E a_q3_done 30 out.2.2.2.2.2.2.2.2.2.2.1, ar E a_q3_gangs 30 out.2.2.2.2.2.2.2.2.2.2.2.1, ar E a_q3_hours 30 out.2.2.2.2.2.2.2.2.2.2.2.2.1, ar E a_q3_lineOf 30 out.2.2.2.2.2.2.2.2.2.2.2.2.2] out.1 := by
  refine kmetI (T := Int32 × Int32 × Int32 × Int32 × Int32 × Int32 × Int32 × Int32 × (Nat → Int32) × (Nat → Int32) × (Nat → Int32) × (Nat → Int32) × (Nat → Int32) × (Nat → Int32)) (out := out) (wf := (fun (o : Int32 × Int32 × Int32 × Int32 × Int32 × Int32 × Int32 × Int32 × (Nat → Int32) × (Nat → Int32) × (Nat → Int32) × (Nat → Int32) × (Nat → Int32) × (Nat → Int32)) => [oo a_t 4 [.int o.2.1, .int o.2.2.1, .int o.2.2.2.1, .int o.2.2.2.2.1], oo a_q1 6 [.ref a_q1_bytes, .int q1_length, .int o.2.2.2.2.2.1, .int o.2.2.2.2.2.2.1], ar E a_q1_bytes 400 q1_bytes, oo a_q2 1 [.ref a_q2_oneEnd, .ref a_q2_otherEnd, .ref a_q2_miles, .ref a_q2_hours, .ref a_q2_spikesSet, .int q2_many, .int q2_rateOfSet, .int q2_rateOfOthers], oo a_q3 2 [.ref a_q3_lineOf, .ref a_q3_after, .ref a_q3_hours, .ref a_q3_gangs, .ref a_q3_begins, .ref a_q3_done, .int o.2.2.2.2.2.2.2.1], ar E a_q3_after 30 o.2.2.2.2.2.2.2.2.1, ar E a_q3_begins 30 o.2.2.2.2.2.2.2.2.2.1, ar E a_q3_done 30 o.2.2.2.2.2.2.2.2.2.2.1, ar E a_q3_gangs 30 o.2.2.2.2.2.2.2.2.2.2.2.1, ar E a_q3_hours 30 o.2.2.2.2.2.2.2.2.2.2.2.2.1, ar E a_q3_lineOf 30 o.2.2.2.2.2.2.2.2.2.2.2.2.2])) (rf := (fun (o : Int32 × Int32 × Int32 × Int32 × Int32 × Int32 × Int32 × Int32 × (Nat → Int32) × (Nat → Int32) × (Nat → Int32) × (Nat → Int32) × (Nat → Int32) × (Nat → Int32)) => o.1)) (cc := cX4_readOrders) (maxL := 5) (ty := .boolean) (by decide) rfl (Nat.le_of_ble_eq_true rfl) ?_
  intro p e s m args below meth c A Q ls hx hb hml hts hown hE hP hD hS hA hl hret
  have hown : s.vm.findClass RX4 = some m.cls := hown
  have hK := hE.1
  have hl : lv_has ls 5 [(0, .ref a_t), (1, .ref a_q1), (2, .ref a_q2), (3, .ref a_q3)] := hl
  have hP : va_P (kD E) vwCl [oo a_t 4 [.int t_line, .int t_after, .int t_hours, .int t_gangs], oo a_q1 6 [.ref a_q1_bytes, .int q1_length, .int q1_tokenStart, .int q1_tokenEnd], ar E a_q1_bytes 400 q1_bytes, oo a_q2 1 [.ref a_q2_oneEnd, .ref a_q2_otherEnd, .ref a_q2_miles, .ref a_q2_hours, .ref a_q2_spikesSet, .int q2_many, .int q2_rateOfSet, .int q2_rateOfOthers], oo a_q3 2 [.ref a_q3_lineOf, .ref a_q3_after, .ref a_q3_hours, .ref a_q3_gangs, .ref a_q3_begins, .ref a_q3_done, .int q3_many], ar E a_q3_after 30 q3_after, ar E a_q3_begins 30 q3_begins, ar E a_q3_done 30 q3_done, ar E a_q3_gangs 30 q3_gangs, ar E a_q3_hours 30 q3_hours, ar E a_q3_lineOf 30 q3_lineOf] s.heap := hP
  have hD : va_D A [oo a_t 4 [.int t_line, .int t_after, .int t_hours, .int t_gangs], oo a_q1 6 [.ref a_q1_bytes, .int q1_length, .int q1_tokenStart, .int q1_tokenEnd], ar E a_q1_bytes 400 q1_bytes, oo a_q2 1 [.ref a_q2_oneEnd, .ref a_q2_otherEnd, .ref a_q2_miles, .ref a_q2_hours, .ref a_q2_spikesSet, .int q2_many, .int q2_rateOfSet, .int q2_rateOfOthers], oo a_q3 2 [.ref a_q3_lineOf, .ref a_q3_after, .ref a_q3_hours, .ref a_q3_gangs, .ref a_q3_begins, .ref a_q3_done, .int q3_many], ar E a_q3_after 30 q3_after, ar E a_q3_begins 30 q3_begins, ar E a_q3_done 30 q3_done, ar E a_q3_gangs 30 q3_gangs, ar E a_q3_hours 30 q3_hours, ar E a_q3_lineOf 30 q3_lineOf] := hD
  have iX4 : ∀ w ∈ wsX40, w ∈ wsX4_readOrders := by decide +kernel
  have w1 := hts (.fieldLink RX4 9 "GaugeWeekend$Reader" "line" "I") (by decide +kernel)
  have w2 := hts (.fieldLink RX4 15 "GaugeWeekend$Reader" "after" "I") (by decide +kernel)
  have w3 := hts (.fieldLink RX4 18 "GaugeWeekend$Reader" "hours" "I") (by decide +kernel)
  have w4 := hts (.fieldLink RX4 21 "GaugeWeekend$Reader" "gangs" "I") (by decide +kernel)
  have L20 : ∀ (q3_begins : Nat → Int32) (q3_done : Nat → Int32) (n : Nat) (v4 : Int32) (t_line : Int32) (t_after : Int32) (t_hours : Int32) (t_gangs : Int32) (q1_tokenStart : Int32) (q1_tokenEnd : Int32) (q3_many : Int32) (q3_after : Nat → Int32) (q3_gangs : Nat → Int32) (q3_hours : Nat → Int32) (q3_lineOf : Nat → Int32) (H : Heap) (locs : List Loc) (ls : Array Slot) (h : mX4_readOrders_L20 q1_length q1_bytes q2_many q3_begins q3_done n v4 t_line t_after t_hours t_gangs q1_tokenStart q1_tokenEnd q3_many q3_after q3_gangs q3_hours q3_lineOf = some out) (hP : va_P (kD E) vwCl [oo a_t 4 [.int t_line, .int t_after, .int t_hours, .int t_gangs], oo a_q1 6 [.ref a_q1_bytes, .int q1_length, .int q1_tokenStart, .int q1_tokenEnd], ar E a_q1_bytes 400 q1_bytes, oo a_q2 1 [.ref a_q2_oneEnd, .ref a_q2_otherEnd, .ref a_q2_miles, .ref a_q2_hours, .ref a_q2_spikesSet, .int q2_many, .int q2_rateOfSet, .int q2_rateOfOthers], oo a_q3 2 [.ref a_q3_lineOf, .ref a_q3_after, .ref a_q3_hours, .ref a_q3_gangs, .ref a_q3_begins, .ref a_q3_done, .int q3_many], ar E a_q3_after 30 q3_after, ar E a_q3_begins 30 q3_begins, ar E a_q3_done 30 q3_done, ar E a_q3_gangs 30 q3_gangs, ar E a_q3_hours 30 q3_hours, ar E a_q3_lineOf 30 q3_lineOf] H) (hD : va_D A [oo a_t 4 [.int t_line, .int t_after, .int t_hours, .int t_gangs], oo a_q1 6 [.ref a_q1_bytes, .int q1_length, .int q1_tokenStart, .int q1_tokenEnd], ar E a_q1_bytes 400 q1_bytes, oo a_q2 1 [.ref a_q2_oneEnd, .ref a_q2_otherEnd, .ref a_q2_miles, .ref a_q2_hours, .ref a_q2_spikesSet, .int q2_many, .int q2_rateOfSet, .int q2_rateOfOthers], oo a_q3 2 [.ref a_q3_lineOf, .ref a_q3_after, .ref a_q3_hours, .ref a_q3_gangs, .ref a_q3_begins, .ref a_q3_done, .int q3_many], ar E a_q3_after 30 q3_after, ar E a_q3_begins 30 q3_begins, ar E a_q3_done 30 q3_done, ar E a_q3_gangs 30 q3_gangs, ar E a_q3_hours 30 q3_hours, ar E a_q3_lineOf 30 q3_lineOf]) (hS : va_S A s.heap H locs) (hl : lv_has ls 5 [(0, .ref a_t), (1, .ref a_q1), (2, .ref a_q2), (3, .ref a_q3), (4, .int v4)]), W p l e rmX4_readOrders s m args below meth c H locs 0 0 Q (F0 m 20 ls []) := by
    intro q3_begins q3_done n
    induction n with
    | zero =>
      intro v4 t_line t_after t_hours t_gangs q1_tokenStart q1_tokenEnd q3_many q3_after q3_gangs q3_hours q3_lineOf H locs ls h
      rw [mX4_readOrders_L20] at h
      cases h
    | succ n ih =>
      intro v4 t_line t_after t_hours t_gangs q1_tokenStart q1_tokenEnd q3_many q3_after q3_gangs q3_hours q3_lineOf H locs ls h hP hD hS hl
      rw [mX4_readOrders_L20] at h
      refine lv_iload hx hb dX4_readOrders_20 (lv_at hl 4 rfl) ?_
      refine lv_sipush (v := (iI 400)) hx hb dX4_readOrders_22 (by decide) ?_
      refine lv_icmp_gt (tgt := 103) hx hb dX4_readOrders_25 (by decide) (fun c_5 => ?_) (fun c_5 => ?_)
      · have h := (if_pos c_5).symm.trans h
        refine lv_iconst (v := (iI 0)) hx hb dX4_readOrders_103 (by decide) ?_
        exact hret _ _ ((iI 0), t_line, t_after, t_hours, t_gangs, q1_tokenStart, q1_tokenEnd, q3_many, q3_after, q3_begins, q3_done, q3_gangs, q3_hours, q3_lineOf) _ _ _ (Option.some.inj h) rfl rfl hP hS dX4_readOrders_104
      · have h := (if_neg c_5).symm.trans h
        refine lv_aload_n hx hb dX4_readOrders_28 rfl (lv_at hl 0 rfl) ?_
        refine lv_aload_n hx hb dX4_readOrders_29 rfl (lv_at hl 1 rfl) ?_
        refine lv_aload_n hx hb dX4_readOrders_30 rfl (lv_at hl 2 rfl) ?_
        refine lv_aload_n hx hb dX4_readOrders_31 rfl (lv_at hl 3 rfl) ?_
        obtain ⟨o6, hc6, h⟩ := kbind h
        refine kciV (l := l) (E := E) (wc := [oo a_t 4 [.int t_line, .int t_after, .int t_hours, .int t_gangs], oo a_q1 6 [.ref a_q1_bytes, .int q1_length, .int q1_tokenStart, .int q1_tokenEnd], ar E a_q1_bytes 400 q1_bytes, oo a_q2 1 [.ref a_q2_oneEnd, .ref a_q2_otherEnd, .ref a_q2_miles, .ref a_q2_hours, .ref a_q2_spikesSet, .int q2_many, .int q2_rateOfSet, .int q2_rateOfOthers], oo a_q3 2 [.ref a_q3_lineOf, .ref a_q3_after, .ref a_q3_hours, .ref a_q3_gangs, .ref a_q3_begins, .ref a_q3_done, .int q3_many], ar E a_q3_gangs 30 q3_gangs]) (w1 := [oo a_t 4 [.int o6.2.1, .int t_after, .int t_hours, .int t_gangs], oo a_q1 6 [.ref a_q1_bytes, .int q1_length, .int o6.2.2.1, .int o6.2.2.2], ar E a_q1_bytes 400 q1_bytes, oo a_q2 1 [.ref a_q2_oneEnd, .ref a_q2_otherEnd, .ref a_q2_miles, .ref a_q2_hours, .ref a_q2_spikesSet, .int q2_many, .int q2_rateOfSet, .int q2_rateOfOthers], oo a_q3 2 [.ref a_q3_lineOf, .ref a_q3_after, .ref a_q3_hours, .ref a_q3_gangs, .ref a_q3_begins, .ref a_q3_done, .int q3_many], ar E a_q3_gangs 30 q3_gangs]) (w' := [oo a_t 4 [.int o6.2.1, .int t_after, .int t_hours, .int t_gangs], oo a_q1 6 [.ref a_q1_bytes, .int q1_length, .int o6.2.2.1, .int o6.2.2.2], ar E a_q1_bytes 400 q1_bytes, oo a_q2 1 [.ref a_q2_oneEnd, .ref a_q2_otherEnd, .ref a_q2_miles, .ref a_q2_hours, .ref a_q2_spikesSet, .int q2_many, .int q2_rateOfSet, .int q2_rateOfOthers], oo a_q3 2 [.ref a_q3_lineOf, .ref a_q3_after, .ref a_q3_hours, .ref a_q3_gangs, .ref a_q3_begins, .ref a_q3_done, .int q3_many], ar E a_q3_after 30 q3_after, ar E a_q3_begins 30 q3_begins, ar E a_q3_done 30 q3_done, ar E a_q3_gangs 30 q3_gangs, ar E a_q3_hours 30 q3_hours, ar E a_q3_lineOf 30 q3_lineOf]) (ads := [a_t, a_q1, a_q1_bytes, a_q2, a_q3, a_q3_gangs]) (r := o6.1) (As := [.ref a_q1, .ref a_q2, .ref a_q3]) (rest := []) (kX4_readLine l E hc6) ⟨hx, hb, hml, hown, hts⟩ (cwV 3 hts gX4_readOrders_X4_readLine rfl rfl rfl (by decide +kernel) ⟨by decide, by decide⟩) hE hP hD hS hA [0, 1, 2, 3, 4, 8] (by decide) rfl rfl rfl rfl rfl rfl rfl rfl hl.1 rfl (Nat.le_of_ble_eq_true rfl) dX4_readOrders_32 ⟨Nat.zero_le _, Nat.zero_le _⟩ (fun H locs hP hD hS => ?_)
        refine lv_if_eq (tgt := 55) hx hb dX4_readOrders_35 (by decide) (fun c_7 => ?_) (fun c_7 => ?_)
        · have h := (if_pos c_7).symm.trans h
          refine lv_iconst (v := (iI 0)) hx hb dX4_readOrders_55 (by decide) ?_
          exact hret _ _ ((iI 0), o6.2.1, t_after, t_hours, t_gangs, o6.2.2.1, o6.2.2.2, q3_many, q3_after, q3_begins, q3_done, q3_gangs, q3_hours, q3_lineOf) _ _ _ (Option.some.inj h) rfl rfl hP hS dX4_readOrders_56
        · have h := (if_neg c_7).symm.trans h
          refine lv_aload_n hx hb dX4_readOrders_38 rfl (lv_at hl 0 rfl) ?_
          refine lv_aload_n hx hb dX4_readOrders_39 rfl (lv_at hl 1 rfl) ?_
          refine lv_aload_n hx hb dX4_readOrders_40 rfl (lv_at hl 3 rfl) ?_
          obtain ⟨o8, hc8, h⟩ := kbind h
          refine kciV (l := l) (E := E) (wc := [oo a_t 4 [.int o6.2.1, .int t_after, .int t_hours, .int t_gangs], oo a_q1 6 [.ref a_q1_bytes, .int q1_length, .int o6.2.2.1, .int o6.2.2.2], ar E a_q1_bytes 400 q1_bytes, oo a_q3 2 [.ref a_q3_lineOf, .ref a_q3_after, .ref a_q3_hours, .ref a_q3_gangs, .ref a_q3_begins, .ref a_q3_done, .int q3_many], ar E a_q3_gangs 30 q3_gangs]) (w1 := [oo a_t 4 [.int o6.2.1, .int o8.2.1, .int o8.2.2.1, .int t_gangs], oo a_q1 6 [.ref a_q1_bytes, .int q1_length, .int o8.2.2.2.1, .int o8.2.2.2.2], ar E a_q1_bytes 400 q1_bytes, oo a_q3 2 [.ref a_q3_lineOf, .ref a_q3_after, .ref a_q3_hours, .ref a_q3_gangs, .ref a_q3_begins, .ref a_q3_done, .int q3_many], ar E a_q3_gangs 30 q3_gangs]) (w' := [oo a_t 4 [.int o6.2.1, .int o8.2.1, .int o8.2.2.1, .int t_gangs], oo a_q1 6 [.ref a_q1_bytes, .int q1_length, .int o8.2.2.2.1, .int o8.2.2.2.2], ar E a_q1_bytes 400 q1_bytes, oo a_q2 1 [.ref a_q2_oneEnd, .ref a_q2_otherEnd, .ref a_q2_miles, .ref a_q2_hours, .ref a_q2_spikesSet, .int q2_many, .int q2_rateOfSet, .int q2_rateOfOthers], oo a_q3 2 [.ref a_q3_lineOf, .ref a_q3_after, .ref a_q3_hours, .ref a_q3_gangs, .ref a_q3_begins, .ref a_q3_done, .int q3_many], ar E a_q3_after 30 q3_after, ar E a_q3_begins 30 q3_begins, ar E a_q3_done 30 q3_done, ar E a_q3_gangs 30 q3_gangs, ar E a_q3_hours 30 q3_hours, ar E a_q3_lineOf 30 q3_lineOf]) (ads := [a_t, a_q1, a_q1_bytes, a_q3, a_q3_gangs]) (r := o8.1) (As := [.ref a_q1, .ref a_q3]) (rest := []) (kX4_readStart l E hc8) ⟨hx, hb, hml, hown, hts⟩ (cwV 2 hts gX4_readOrders_X4_readStart rfl rfl rfl (by decide +kernel) ⟨by decide, by decide⟩) hE hP hD hS hA [0, 1, 2, 4, 8] (by decide) rfl rfl rfl rfl rfl rfl rfl rfl hl.1 rfl (Nat.le_of_ble_eq_true rfl) dX4_readOrders_41 ⟨Nat.zero_le _, Nat.zero_le _⟩ (fun H locs hP hD hS => ?_)
          refine lv_if_eq (tgt := 55) hx hb dX4_readOrders_44 (by decide) (fun c_9 => ?_) (fun c_9 => ?_)
          · have h := (if_pos c_9).symm.trans h
            refine lv_iconst (v := (iI 0)) hx hb dX4_readOrders_55 (by decide) ?_
            exact hret _ _ ((iI 0), o6.2.1, o8.2.1, o8.2.2.1, t_gangs, o8.2.2.2.1, o8.2.2.2.2, q3_many, q3_after, q3_begins, q3_done, q3_gangs, q3_hours, q3_lineOf) _ _ _ (Option.some.inj h) rfl rfl hP hS dX4_readOrders_56
          · have h := (if_neg c_9).symm.trans h
            refine lv_aload_n hx hb dX4_readOrders_47 rfl (lv_at hl 0 rfl) ?_
            refine lv_aload_n hx hb dX4_readOrders_48 rfl (lv_at hl 1 rfl) ?_
            obtain ⟨o10, hc10, h⟩ := kbind h
            refine kciV (l := l) (E := E) (wc := [oo a_t 4 [.int o6.2.1, .int o8.2.1, .int o8.2.2.1, .int t_gangs], oo a_q1 6 [.ref a_q1_bytes, .int q1_length, .int o8.2.2.2.1, .int o8.2.2.2.2], ar E a_q1_bytes 400 q1_bytes]) (w1 := [oo a_t 4 [.int o6.2.1, .int o8.2.1, .int o8.2.2.1, .int o10.2.1], oo a_q1 6 [.ref a_q1_bytes, .int q1_length, .int o10.2.2.1, .int o10.2.2.2], ar E a_q1_bytes 400 q1_bytes]) (w' := [oo a_t 4 [.int o6.2.1, .int o8.2.1, .int o8.2.2.1, .int o10.2.1], oo a_q1 6 [.ref a_q1_bytes, .int q1_length, .int o10.2.2.1, .int o10.2.2.2], ar E a_q1_bytes 400 q1_bytes, oo a_q2 1 [.ref a_q2_oneEnd, .ref a_q2_otherEnd, .ref a_q2_miles, .ref a_q2_hours, .ref a_q2_spikesSet, .int q2_many, .int q2_rateOfSet, .int q2_rateOfOthers], oo a_q3 2 [.ref a_q3_lineOf, .ref a_q3_after, .ref a_q3_hours, .ref a_q3_gangs, .ref a_q3_begins, .ref a_q3_done, .int q3_many], ar E a_q3_after 30 q3_after, ar E a_q3_begins 30 q3_begins, ar E a_q3_done 30 q3_done, ar E a_q3_gangs 30 q3_gangs, ar E a_q3_hours 30 q3_hours, ar E a_q3_lineOf 30 q3_lineOf]) (ads := [a_t, a_q1, a_q1_bytes]) (r := o10.1) (As := [.ref a_q1]) (rest := []) (kX4_readGangs l E hc10) ⟨hx, hb, hml, hown, hts⟩ (cwV 1 hts gX4_readOrders_X4_readGangs rfl rfl rfl (by decide +kernel) ⟨by decide, by decide⟩) hE hP hD hS hA [0, 1, 2] (by decide) rfl rfl rfl rfl rfl rfl rfl rfl hl.1 rfl (Nat.le_of_ble_eq_true rfl) dX4_readOrders_49 ⟨Nat.zero_le _, Nat.zero_le _⟩ (fun H locs hP hD hS => ?_)
            refine lv_if_ne (tgt := 57) hx hb dX4_readOrders_52 (by decide) (fun c_11 => ?_) (fun c_11 => ?_)
            · have h := (if_neg c_11).symm.trans h
              refine lv_aload_n hx hb dX4_readOrders_57 rfl (lv_at hl 3 rfl) ?_
              refine lv_aload_n hx hb dX4_readOrders_58 rfl (lv_at hl 0 rfl) ?_
              refine va_get (D := kD E) (cl := vwCl) (tys := kT E) (ci := 4) (v := .int o6.2.1) (C := RX4) (T := TX4) (N := 4) hx hb hts iX4 hown hK hP 0 rfl rfl 0 (by decide) w1 (fun _ h9 => h9) rfl dX4_readOrders_59 ?_
              refine lv_aload_n hx hb dX4_readOrders_62 rfl (lv_at hl 0 rfl) ?_
              refine va_get (D := kD E) (cl := vwCl) (tys := kT E) (ci := 4) (v := .int o8.2.1) (C := RX4) (T := TX4) (N := 4) hx hb hts iX4 hown hK hP 0 rfl rfl 1 (by decide) w2 (fun _ h9 => h9) rfl dX4_readOrders_63 ?_
              refine lv_aload_n hx hb dX4_readOrders_66 rfl (lv_at hl 0 rfl) ?_
              refine va_get (D := kD E) (cl := vwCl) (tys := kT E) (ci := 4) (v := .int o8.2.2.1) (C := RX4) (T := TX4) (N := 4) hx hb hts iX4 hown hK hP 0 rfl rfl 2 (by decide) w3 (fun _ h9 => h9) rfl dX4_readOrders_67 ?_
              refine lv_aload_n hx hb dX4_readOrders_70 rfl (lv_at hl 0 rfl) ?_
              refine va_get (D := kD E) (cl := vwCl) (tys := kT E) (ci := 4) (v := .int o10.2.1) (C := RX4) (T := TX4) (N := 4) hx hb hts iX4 hown hK hP 0 rfl rfl 3 (by decide) w4 (fun _ h9 => h9) rfl dX4_readOrders_71 ?_
              obtain ⟨o12, hc12, h⟩ := kbind h
              refine kcvV (l := l) (E := E) (wc := [oo a_q3 2 [.ref a_q3_lineOf, .ref a_q3_after, .ref a_q3_hours, .ref a_q3_gangs, .ref a_q3_begins, .ref a_q3_done, .int q3_many], ar E a_q3_after 30 q3_after, ar E a_q3_gangs 30 q3_gangs, ar E a_q3_hours 30 q3_hours, ar E a_q3_lineOf 30 q3_lineOf]) (w1 := [oo a_q3 2 [.ref a_q3_lineOf, .ref a_q3_after, .ref a_q3_hours, .ref a_q3_gangs, .ref a_q3_begins, .ref a_q3_done, .int o12.1], ar E a_q3_after 30 o12.2.1, ar E a_q3_gangs 30 o12.2.2.1, ar E a_q3_hours 30 o12.2.2.2.1, ar E a_q3_lineOf 30 o12.2.2.2.2]) (w' := [oo a_t 4 [.int o6.2.1, .int o8.2.1, .int o8.2.2.1, .int o10.2.1], oo a_q1 6 [.ref a_q1_bytes, .int q1_length, .int o10.2.2.1, .int o10.2.2.2], ar E a_q1_bytes 400 q1_bytes, oo a_q2 1 [.ref a_q2_oneEnd, .ref a_q2_otherEnd, .ref a_q2_miles, .ref a_q2_hours, .ref a_q2_spikesSet, .int q2_many, .int q2_rateOfSet, .int q2_rateOfOthers], oo a_q3 2 [.ref a_q3_lineOf, .ref a_q3_after, .ref a_q3_hours, .ref a_q3_gangs, .ref a_q3_begins, .ref a_q3_done, .int o12.1], ar E a_q3_after 30 o12.2.1, ar E a_q3_begins 30 q3_begins, ar E a_q3_done 30 q3_done, ar E a_q3_gangs 30 o12.2.2.1, ar E a_q3_hours 30 o12.2.2.2.1, ar E a_q3_lineOf 30 o12.2.2.2.2]) (ads := [a_q3, a_q3_after, a_q3_gangs, a_q3_hours, a_q3_lineOf]) (As := [.int o6.2.1, .int o8.2.1, .int o8.2.2.1, .int o10.2.1]) (rest := []) (kX2_add l E hc12) ⟨hx, hb, hml, hown, hts⟩ (cwV 4 hts gX4_readOrders_X2_add rfl rfl rfl (by decide +kernel) ⟨by decide, by decide⟩) hE hP hD hS hA [4, 5, 8, 9, 10] (by decide) rfl rfl rfl rfl rfl rfl rfl rfl hl.1 rfl (Nat.le_of_ble_eq_true rfl) dX4_readOrders_74 ⟨Nat.zero_le _, Nat.zero_le _⟩ (fun H locs hP hD hS => ?_)
              refine lv_aload_n hx hb dX4_readOrders_77 rfl (lv_at hl 1 rfl) ?_
              refine kciV (l := l) (E := E) (wc := [oo a_q1 6 [.ref a_q1_bytes, .int q1_length, .int o10.2.2.1, .int o10.2.2.2]]) (w1 := [oo a_q1 6 [.ref a_q1_bytes, .int q1_length, .int o10.2.2.1, .int o10.2.2.2]]) (w' := [oo a_t 4 [.int o6.2.1, .int o8.2.1, .int o8.2.2.1, .int o10.2.1], oo a_q1 6 [.ref a_q1_bytes, .int q1_length, .int o10.2.2.1, .int o10.2.2.2], ar E a_q1_bytes 400 q1_bytes, oo a_q2 1 [.ref a_q2_oneEnd, .ref a_q2_otherEnd, .ref a_q2_miles, .ref a_q2_hours, .ref a_q2_spikesSet, .int q2_many, .int q2_rateOfSet, .int q2_rateOfOthers], oo a_q3 2 [.ref a_q3_lineOf, .ref a_q3_after, .ref a_q3_hours, .ref a_q3_gangs, .ref a_q3_begins, .ref a_q3_done, .int o12.1], ar E a_q3_after 30 o12.2.1, ar E a_q3_begins 30 q3_begins, ar E a_q3_done 30 q3_done, ar E a_q3_gangs 30 o12.2.2.1, ar E a_q3_hours 30 o12.2.2.2.1, ar E a_q3_lineOf 30 o12.2.2.2.2]) (ads := [a_q1]) (r := (mX6_isAtEnd q1_length o10.2.2.1)) (As := []) (rest := []) (kX6_isAtEnd l E rfl) ⟨hx, hb, hml, hown, hts⟩ (cwV 0 hts gX4_readOrders_X6_isAtEnd rfl rfl rfl (by decide +kernel) ⟨by decide, by decide⟩) hE hP hD hS hA [1] (by decide) rfl rfl rfl rfl rfl rfl rfl rfl hl.1 rfl (Nat.le_of_ble_eq_true rfl) dX4_readOrders_78 ⟨Nat.zero_le _, Nat.zero_le _⟩ (fun H locs hP hD hS => ?_)
              refine lv_if_eq (tgt := 86) hx hb dX4_readOrders_81 (by decide) (fun c_14 => ?_) (fun c_14 => ?_)
              · have h := (if_pos c_14).symm.trans h
                refine lv_aload_n hx hb dX4_readOrders_86 rfl (lv_at hl 1 rfl) ?_
                refine va_ldcS hx hb hown (hE.2.2.2.1 _ (kTx_1)) dX4_readOrders_87 ?_
                obtain ⟨o15, hc15, h⟩ := kbind h
                refine kciV (l := l) (E := E) (wc := [oo a_q1 6 [.ref a_q1_bytes, .int q1_length, .int o10.2.2.1, .int o10.2.2.2], ar E a_q1_bytes 400 q1_bytes]) (w1 := [oo a_q1 6 [.ref a_q1_bytes, .int q1_length, .int o15.2.1, .int o15.2.2], ar E a_q1_bytes 400 q1_bytes]) (w' := [oo a_t 4 [.int o6.2.1, .int o8.2.1, .int o8.2.2.1, .int o10.2.1], oo a_q1 6 [.ref a_q1_bytes, .int q1_length, .int o15.2.1, .int o15.2.2], ar E a_q1_bytes 400 q1_bytes, oo a_q2 1 [.ref a_q2_oneEnd, .ref a_q2_otherEnd, .ref a_q2_miles, .ref a_q2_hours, .ref a_q2_spikesSet, .int q2_many, .int q2_rateOfSet, .int q2_rateOfOthers], oo a_q3 2 [.ref a_q3_lineOf, .ref a_q3_after, .ref a_q3_hours, .ref a_q3_gangs, .ref a_q3_begins, .ref a_q3_done, .int o12.1], ar E a_q3_after 30 o12.2.1, ar E a_q3_begins 30 q3_begins, ar E a_q3_done 30 q3_done, ar E a_q3_gangs 30 o12.2.2.1, ar E a_q3_hours 30 o12.2.2.2.1, ar E a_q3_lineOf 30 o12.2.2.2.2]) (ads := [a_q1, a_q1_bytes]) (r := o15.1) (As := [.ref (E.2.2.1 1)]) (rest := []) (kX6_take l E (hp1 := (by decide)) hc15) ⟨hx, hb, hml, hown, hts⟩ (cwV 1 hts gX4_readOrders_X6_take rfl rfl rfl (by decide +kernel) ⟨by decide, by decide⟩) hE hP hD hS hA [1, 2] (by decide) rfl rfl rfl rfl rfl rfl rfl rfl hl.1 rfl (Nat.le_of_ble_eq_true rfl) dX4_readOrders_89 ⟨Nat.zero_le _, Nat.zero_le _⟩ (fun H locs hP hD hS => ?_)
                refine lv_if_ne (tgt := 97) hx hb dX4_readOrders_92 (by decide) (fun c_16 => ?_) (fun c_16 => ?_)
                · have h := (if_neg c_16).symm.trans h
                  refine lv_iinc (v := (v4 + (iI 1))) (lv' := [(4, .int (v4 + (iI 1))), (0, .ref a_t), (1, .ref a_q1), (2, .ref a_q2), (3, .ref a_q3)]) hx hb dX4_readOrders_97 hl (k := 4) rfl (kinc _ (by decide)) (by decide) rfl (fun ls hl => ?_)
                  refine lv_goto (tgt := 20) hx hb dX4_readOrders_100 (by decide) ?_
                  exact ih (v4 + (iI 1)) o6.2.1 o8.2.1 o8.2.2.1 o10.2.1 o15.2.1 o15.2.2 o12.1 o12.2.1 o12.2.2.1 o12.2.2.2.1 o12.2.2.2.2 _ _ _ h hP hD hS (lv_sub hl [1, 2, 3, 4, 0] rfl)
                · have h := (if_pos c_16).symm.trans h
                  refine lv_iconst (v := (iI 0)) hx hb dX4_readOrders_95 (by decide) ?_
                  exact hret _ _ ((iI 0), o6.2.1, o8.2.1, o8.2.2.1, o10.2.1, o15.2.1, o15.2.2, o12.1, o12.2.1, q3_begins, q3_done, o12.2.2.1, o12.2.2.2.1, o12.2.2.2.2) _ _ _ (Option.some.inj h) rfl rfl hP hS dX4_readOrders_96
              · have h := (if_neg c_14).symm.trans h
                refine lv_iconst (v := (iI 1)) hx hb dX4_readOrders_84 (by decide) ?_
                exact hret _ _ ((iI 1), o6.2.1, o8.2.1, o8.2.2.1, o10.2.1, o10.2.2.1, o10.2.2.2, o12.1, o12.2.1, q3_begins, q3_done, o12.2.2.1, o12.2.2.2.1, o12.2.2.2.2) _ _ _ (Option.some.inj h) rfl rfl hP hS dX4_readOrders_85
            · have h := (if_pos c_11).symm.trans h
              refine lv_iconst (v := (iI 0)) hx hb dX4_readOrders_55 (by decide) ?_
              exact hret _ _ ((iI 0), o6.2.1, o8.2.1, o8.2.2.1, o10.2.1, o10.2.2.1, o10.2.2.2, q3_many, q3_after, q3_begins, q3_done, q3_gangs, q3_hours, q3_lineOf) _ _ _ (Option.some.inj h) rfl rfl hP hS dX4_readOrders_56
  rw [mX4_readOrders] at h
  refine lv_aload_n hx hb dX4_readOrders_0 rfl (lv_at hl 3 rfl) ?_
  obtain ⟨o1, hc1, h⟩ := kbind h
  refine kcvV (l := l) (E := E) (wc := [oo a_q3 2 [.ref a_q3_lineOf, .ref a_q3_after, .ref a_q3_hours, .ref a_q3_gangs, .ref a_q3_begins, .ref a_q3_done, .int q3_many], ar E a_q3_begins 30 q3_begins, ar E a_q3_done 30 q3_done, ar E a_q3_gangs 30 q3_gangs]) (w1 := [oo a_q3 2 [.ref a_q3_lineOf, .ref a_q3_after, .ref a_q3_hours, .ref a_q3_gangs, .ref a_q3_begins, .ref a_q3_done, .int o1.1], ar E a_q3_begins 30 o1.2.1, ar E a_q3_done 30 o1.2.2.1, ar E a_q3_gangs 30 o1.2.2.2]) (w' := [oo a_t 4 [.int t_line, .int t_after, .int t_hours, .int t_gangs], oo a_q1 6 [.ref a_q1_bytes, .int q1_length, .int q1_tokenStart, .int q1_tokenEnd], ar E a_q1_bytes 400 q1_bytes, oo a_q2 1 [.ref a_q2_oneEnd, .ref a_q2_otherEnd, .ref a_q2_miles, .ref a_q2_hours, .ref a_q2_spikesSet, .int q2_many, .int q2_rateOfSet, .int q2_rateOfOthers], oo a_q3 2 [.ref a_q3_lineOf, .ref a_q3_after, .ref a_q3_hours, .ref a_q3_gangs, .ref a_q3_begins, .ref a_q3_done, .int o1.1], ar E a_q3_after 30 q3_after, ar E a_q3_begins 30 o1.2.1, ar E a_q3_done 30 o1.2.2.1, ar E a_q3_gangs 30 o1.2.2.2, ar E a_q3_hours 30 q3_hours, ar E a_q3_lineOf 30 q3_lineOf]) (ads := [a_q3, a_q3_begins, a_q3_done, a_q3_gangs]) (As := []) (rest := []) (kX2_clear l E hc1) ⟨hx, hb, hml, hown, hts⟩ (cwV 0 hts gX4_readOrders_X2_clear rfl rfl rfl (by decide +kernel) ⟨by decide, by decide⟩) hE hP hD hS hA [4, 6, 7, 8] (by decide) rfl rfl rfl rfl rfl rfl rfl rfl hl.1 rfl (Nat.le_of_ble_eq_true rfl) dX4_readOrders_1 ⟨Nat.zero_le _, Nat.zero_le _⟩ (fun H locs hP hD hS => ?_)
  refine lv_aload_n hx hb dX4_readOrders_4 rfl (lv_at hl 1 rfl) ?_
  obtain ⟨o2, hc2, h⟩ := kbind h
  refine kcvV (l := l) (E := E) (wc := [oo a_q1 6 [.ref a_q1_bytes, .int q1_length, .int q1_tokenStart, .int q1_tokenEnd], ar E a_q1_bytes 400 q1_bytes]) (w1 := [oo a_q1 6 [.ref a_q1_bytes, .int q1_length, .int o2.1, .int o2.2], ar E a_q1_bytes 400 q1_bytes]) (w' := [oo a_t 4 [.int t_line, .int t_after, .int t_hours, .int t_gangs], oo a_q1 6 [.ref a_q1_bytes, .int q1_length, .int o2.1, .int o2.2], ar E a_q1_bytes 400 q1_bytes, oo a_q2 1 [.ref a_q2_oneEnd, .ref a_q2_otherEnd, .ref a_q2_miles, .ref a_q2_hours, .ref a_q2_spikesSet, .int q2_many, .int q2_rateOfSet, .int q2_rateOfOthers], oo a_q3 2 [.ref a_q3_lineOf, .ref a_q3_after, .ref a_q3_hours, .ref a_q3_gangs, .ref a_q3_begins, .ref a_q3_done, .int o1.1], ar E a_q3_after 30 q3_after, ar E a_q3_begins 30 o1.2.1, ar E a_q3_done 30 o1.2.2.1, ar E a_q3_gangs 30 o1.2.2.2, ar E a_q3_hours 30 q3_hours, ar E a_q3_lineOf 30 q3_lineOf]) (ads := [a_q1, a_q1_bytes]) (As := []) (rest := []) (kX6_rewind l E hc2) ⟨hx, hb, hml, hown, hts⟩ (cwV 0 hts gX4_readOrders_X6_rewind rfl rfl rfl (by decide +kernel) ⟨by decide, by decide⟩) hE hP hD hS hA [1, 2] (by decide) rfl rfl rfl rfl rfl rfl rfl rfl hl.1 rfl (Nat.le_of_ble_eq_true rfl) dX4_readOrders_5 ⟨Nat.zero_le _, Nat.zero_le _⟩ (fun H locs hP hD hS => ?_)
  refine lv_aload_n hx hb dX4_readOrders_8 rfl (lv_at hl 1 rfl) ?_
  refine kciV (l := l) (E := E) (wc := [oo a_q1 6 [.ref a_q1_bytes, .int q1_length, .int o2.1, .int o2.2]]) (w1 := [oo a_q1 6 [.ref a_q1_bytes, .int q1_length, .int o2.1, .int o2.2]]) (w' := [oo a_t 4 [.int t_line, .int t_after, .int t_hours, .int t_gangs], oo a_q1 6 [.ref a_q1_bytes, .int q1_length, .int o2.1, .int o2.2], ar E a_q1_bytes 400 q1_bytes, oo a_q2 1 [.ref a_q2_oneEnd, .ref a_q2_otherEnd, .ref a_q2_miles, .ref a_q2_hours, .ref a_q2_spikesSet, .int q2_many, .int q2_rateOfSet, .int q2_rateOfOthers], oo a_q3 2 [.ref a_q3_lineOf, .ref a_q3_after, .ref a_q3_hours, .ref a_q3_gangs, .ref a_q3_begins, .ref a_q3_done, .int o1.1], ar E a_q3_after 30 q3_after, ar E a_q3_begins 30 o1.2.1, ar E a_q3_done 30 o1.2.2.1, ar E a_q3_gangs 30 o1.2.2.2, ar E a_q3_hours 30 q3_hours, ar E a_q3_lineOf 30 q3_lineOf]) (ads := [a_q1]) (r := (mX6_isAtEnd q1_length o2.1)) (As := []) (rest := []) (kX6_isAtEnd l E rfl) ⟨hx, hb, hml, hown, hts⟩ (cwV 0 hts gX4_readOrders_X6_isAtEnd rfl rfl rfl (by decide +kernel) ⟨by decide, by decide⟩) hE hP hD hS hA [1] (by decide) rfl rfl rfl rfl rfl rfl rfl rfl hl.1 rfl (Nat.le_of_ble_eq_true rfl) dX4_readOrders_9 ⟨Nat.zero_le _, Nat.zero_le _⟩ (fun H locs hP hD hS => ?_)
  refine lv_if_eq (tgt := 17) hx hb dX4_readOrders_12 (by decide) (fun c_4 => ?_) (fun c_4 => ?_)
  · have h := (if_pos c_4).symm.trans h
    refine lv_iconst (v := (iI 0)) hx hb dX4_readOrders_17 (by decide) ?_
    refine lv_istore (lv' := [(4, .int (iI 0)), (0, .ref a_t), (1, .ref a_q1), (2, .ref a_q2), (3, .ref a_q3)]) hx hb dX4_readOrders_18 hl (by decide) rfl (fun ls hl => ?_)
    exact L20 o1.2.1 o1.2.2.1 _ (iI 0) t_line t_after t_hours t_gangs o2.1 o2.2 o1.1 q3_after o1.2.2.2 q3_hours q3_lineOf _ _ _ h hP hD hS (lv_sub hl [1, 2, 3, 4, 0] rfl)
  · have h := (if_neg c_4).symm.trans h
    refine lv_iconst (v := (iI 1)) hx hb dX4_readOrders_15 (by decide) ?_
    exact hret _ _ ((iI 1), t_line, t_after, t_hours, t_gangs, o2.1, o2.2, o1.1, q3_after, o1.2.1, o1.2.2.1, o1.2.2.2, q3_hours, q3_lineOf) _ _ _ (Option.some.inj h) rfl rfl hP hS dX4_readOrders_16
