/-! THE LAW: what every method is given, at the law's entry -/
def kNo (i : Nat) : Nat := [60, 54, 77, 83, 87, 89].getD i 0
def kTm (i : Nat) : Term := Term.string RX4 (kNo i)
abbrev gvF : List Cond := flatC (Jvm.Cond.and given_1 narrow_1)
theorem gv_ex : ∀ i : Nat, i < 6 → Cond.exactly (kTm i) "java/lang/String" ∈ gvF := by decide +kernel
theorem gv_co : ∀ i : Nat, i < 6 → Cond.eq (.field (kTm i) "java/lang/String" "coder" "B") (.int 0) ∈ gvF := by decide +kernel
theorem gv_ar : ∀ i : Nat, i < 6 → Cond.arrayOf (.field (kTm i) "java/lang/String" "value" "[B") .byte ∈ gvF := by decide +kernel
theorem gv_le : ∀ i : Nat, i < 6 → Cond.eq (.length (.field (kTm i) "java/lang/String" "value" "[B")) (.int (Int32.ofNat (kLen.getD i 0))) ∈ gvF := by decide +kernel
theorem gv_el : ∀ i : Nat, i < 6 → ∀ j : Nat, j < kLen.getD i 0 → Cond.eq (.elem (.field (kTm i) "java/lang/String" "value" "[B") (.int (Int32.ofNat j))) (.int ((kByt.getD i []).getD j 0)) ∈ gvF := by decide +kernel
theorem gv_ne : ∀ i : Nat, i < 6 → ∀ j : Nat, j < 6 → i ≠ j → Cond.not (Cond.eq (kTm i) (kTm j)) ∈ gvF ∨ Cond.not (Cond.eq (kTm j) (kTm i)) ∈ gvF := by decide +kernel
theorem gv_cs : Cond.eq (.static "java/lang/String" "COMPACT_STRINGS" "Z") (.int 1) ∈ gvF := by decide +kernel
theorem gv_sf : Cond.isRef (.static "jdk/internal/util/Preconditions" "SIOOBE_FORMATTER" "Ljava/util/function/BiFunction;") ∈ gvF := by decide +kernel
theorem tb_kx : ∀ q ∈ kTx, Cond.stringRef RX4 q.1 q.2.1 ∈ lw_tbl ∧ kNo q.2.2 = q.1 ∧ q.2.2 < 6 := by decide +kernel
theorem tb_nm : ∀ q ∈ nwM, Cond.methodLinkNest q.1 q.2.1 q.2.2 "GaugeWeekend" ∈ lw_tbl := by decide +kernel
theorem tb_nf : ∀ q ∈ nwF, Cond.fieldLinkNest q.1 q.2.1 q.2.2.1 q.2.2.2.1 q.2.2.2.2 "GaugeWeekend" ∈ lw_tbl := by decide +kernel
theorem tb_z1 : Cond.laysStatic "java/lang/String" "COMPACT_STRINGS" "Z" ∈ lw_tbl ∧ Cond.initialized "java/lang/String" ∈ lw_tbl ∧ Cond.laysStatic "jdk/internal/util/Preconditions" "SIOOBE_FORMATTER" "Ljava/util/function/BiFunction;" ∈ lw_tbl ∧ Cond.initialized "jdk/internal/util/Preconditions" ∈ lw_tbl := by decide +kernel
theorem tb_ar : Cond.arrayClass .int ∈ lw_tbl ∧ Cond.arrayClass .boolean ∈ lw_tbl := by decide +kernel
theorem tb_c0 : (∀ w ∈ u_ws RX0 TX0 4, w ∈ lw_tbl) ∧ Cond.instantiable RX0 4 ∈ lw_tbl := ⟨by decide +kernel, by decide +kernel⟩
theorem tb_c1 : (∀ w ∈ u_ws RX1 TX1 8, w ∈ lw_tbl) ∧ Cond.instantiable RX1 8 ∈ lw_tbl := ⟨by decide +kernel, by decide +kernel⟩
theorem tb_c2 : (∀ w ∈ u_ws RX2 TX2 7, w ∈ lw_tbl) ∧ Cond.instantiable RX2 7 ∈ lw_tbl := ⟨by decide +kernel, by decide +kernel⟩
theorem tb_c3 : (∀ w ∈ u_ws RX3 TX3 3, w ∈ lw_tbl) ∧ Cond.instantiable RX3 3 ∈ lw_tbl := ⟨by decide +kernel, by decide +kernel⟩
theorem tb_c4 : (∀ w ∈ u_ws RX4 TX4 4, w ∈ lw_tbl) ∧ Cond.instantiable RX4 4 ∈ lw_tbl := ⟨by decide +kernel, by decide +kernel⟩
theorem tb_c5 : (∀ w ∈ u_ws RX5 TX5 8, w ∈ lw_tbl) ∧ Cond.instantiable RX5 8 ∈ lw_tbl := ⟨by decide +kernel, by decide +kernel⟩
theorem tb_c6 : (∀ w ∈ u_ws RX6 TX6 4, w ∈ lw_tbl) ∧ Cond.instantiable RX6 4 ∈ lw_tbl := ⟨by decide +kernel, by decide +kernel⟩
theorem tb_c7 : (∀ w ∈ u_ws RX7 TX7 7, w ∈ lw_tbl) ∧ Cond.instantiable RX7 7 ∈ lw_tbl := ⟨by decide +kernel, by decide +kernel⟩
theorem tb_c8 : (∀ w ∈ u_ws RX8 TX8 7, w ∈ lw_tbl) ∧ Cond.instantiable RX8 7 ∈ lw_tbl := ⟨by decide +kernel, by decide +kernel⟩
theorem tb_c9 : (∀ w ∈ u_ws RX9 TX9 10, w ∈ lw_tbl) ∧ Cond.instantiable RX9 10 ∈ lw_tbl := ⟨by decide +kernel, by decide +kernel⟩
theorem tb_c10 : (∀ w ∈ u_ws RX10 TX10 51, w ∈ lw_tbl) ∧ Cond.instantiable RX10 51 ∈ lw_tbl := ⟨by decide +kernel, by decide +kernel⟩
set_option maxRecDepth 100000 in
theorem law_ev {s : State} {b : Nat} (hts : ∀ w ∈ lw_tbl, w.before #[Value.ref b] s = true) (hgv : (Jvm.Cond.and given_1 narrow_1).before #[Value.ref b] s = true) : ∃ E : KE, EV E (lA s) s := by
  have hg : ∀ c ∈ gvF, c.before #[Value.ref b] s = true := flat_of_before _ hgv
  have hA : ∀ a : Nat, a < s.heap.size → ¬ lA s a := fun a h => Nat.not_le.mpr h
  obtain ⟨c0, i0, n0⟩ := u_known (C := RX0) (T := TX0) (N := 4) (n := 4) hts tb_c0.1 (hts _ tb_c0.2)
  obtain ⟨c1, i1, n1⟩ := u_known (C := RX1) (T := TX1) (N := 8) (n := 8) hts tb_c1.1 (hts _ tb_c1.2)
  obtain ⟨c2, i2, n2⟩ := u_known (C := RX2) (T := TX2) (N := 7) (n := 7) hts tb_c2.1 (hts _ tb_c2.2)
  obtain ⟨c3, i3, n3⟩ := u_known (C := RX3) (T := TX3) (N := 3) (n := 3) hts tb_c3.1 (hts _ tb_c3.2)
  obtain ⟨c4, i4, n4⟩ := u_known (C := RX4) (T := TX4) (N := 4) (n := 4) hts tb_c4.1 (hts _ tb_c4.2)
  obtain ⟨c5, i5, n5⟩ := u_known (C := RX5) (T := TX5) (N := 8) (n := 8) hts tb_c5.1 (hts _ tb_c5.2)
  obtain ⟨c6, i6, n6⟩ := u_known (C := RX6) (T := TX6) (N := 4) (n := 4) hts tb_c6.1 (hts _ tb_c6.2)
  obtain ⟨c7, i7, n7⟩ := u_known (C := RX7) (T := TX7) (N := 7) (n := 7) hts tb_c7.1 (hts _ tb_c7.2)
  obtain ⟨c8, i8, n8⟩ := u_known (C := RX8) (T := TX8) (N := 7) (n := 7) hts tb_c8.1 (hts _ tb_c8.2)
  obtain ⟨c9, i9, n9⟩ := u_known (C := RX9) (T := TX9) (N := 10) (n := 10) hts tb_c9.1 (hts _ tb_c9.2)
  obtain ⟨c10, i10, n10⟩ := u_known (C := RX10) (T := TX10) (N := 51) (n := 51) hts tb_c10.1 (hts _ tb_c10.2)
  have h0 : ∀ c : Nat, ∃ x : ClassId × (Nat → Nat), ∀ q : vw_C, vwCl[c]? = some q → u_Kn s q.1 q.2.1 q.2.2 x.1 x.2 := by
    intro c
    match c with
    | 0 => exact ⟨(c0, i0), fun q hq => by cases hq; exact n0⟩
    | 1 => exact ⟨(c1, i1), fun q hq => by cases hq; exact n1⟩
    | 2 => exact ⟨(c2, i2), fun q hq => by cases hq; exact n2⟩
    | 3 => exact ⟨(c3, i3), fun q hq => by cases hq; exact n3⟩
    | 4 => exact ⟨(c4, i4), fun q hq => by cases hq; exact n4⟩
    | 5 => exact ⟨(c5, i5), fun q hq => by cases hq; exact n5⟩
    | 6 => exact ⟨(c6, i6), fun q hq => by cases hq; exact n6⟩
    | 7 => exact ⟨(c7, i7), fun q hq => by cases hq; exact n7⟩
    | 8 => exact ⟨(c8, i8), fun q hq => by cases hq; exact n8⟩
    | 9 => exact ⟨(c9, i9), fun q hq => by cases hq; exact n9⟩
    | 10 => exact ⟨(c10, i10), fun q hq => by cases hq; exact n10⟩
    | k + 11 => exact ⟨(c0, i0), fun q hq => by simp [vwCl] at hq⟩
  obtain ⟨f, hf⟩ := Classical.axiomOfChoice h0
  obtain ⟨cI, kI, oI, a1, a2, a3⟩ := Cond.arrayClass_spec (hts _ tb_ar.1)
  obtain ⟨cB, kB, oB, d1, d2, d3⟩ := Cond.arrayClass_spec (hts _ tb_ar.2)
  obtain ⟨adK, adV, s1, s2⟩ := vk_Sof (args := #[Value.ref b]) (s := s) (N := 6) (tm := kTm) (len := kLen) (byt := kByt) (A := lA s) (by decide) (fun i hi => hg _ (gv_ex i hi)) (fun i hi => hg _ (gv_co i hi)) (fun i hi => hg _ (gv_ar i hi)) (fun i hi => hg _ (gv_le i hi)) (fun i hi j hj => hg _ (gv_el i hi j hj)) (fun i j hi hj hij => (gv_ne i hi j hj hij).imp (hg _) (hg _)) hA
  refine ⟨((fun k => (f k).1, fun k => (f k).2), (cI, cB), adK, adV), ⟨fun c q hq => hf c q hq, fun k q hq => ?_⟩, ⟨fun q hq => va_Nw.of rfl (hts _ (tb_nm q hq)), fun q hq => va_Nw.of rfl (hts _ (tb_nf q hq))⟩, s1, fun q hq => ?_, va_Zof (hts _ tb_z1.1) (hts _ tb_z1.2.1) (va_eqt (hg _ gv_cs)) hA, va_Zqof (hts _ tb_z1.2.2.1) (hts _ tb_z1.2.2.2) (hg _ gv_sf) hA⟩
  · match k, hq with
    | 0, hq => cases hq; exact ⟨fun n z => ⟨fun k h => (by cases h), kI, a2, oI, a3⟩, a1⟩
    | 1, hq => cases hq; exact ⟨fun n z => ⟨fun k h => (by cases h), kB, d2, oB, d3⟩, d1⟩
    | k + 2, hq => simp at hq
  · obtain ⟨t1, t2, t3⟩ := tb_kx q hq
    have e := s2 q.2.2 t3
    rw [kTm, t2] at e
    exact vk_R.of (hts _ t1) e
