/-! WAY: how late one may be, as the class reckons -/
section WC
variable {n tr : Int} {A B Ho BG DN : F1}
def RC (j : Nat) (L S : F1) : Prop := ∀ v : Nat, v < 32 → L (32 * j + cl v) = S v
theorem OUTR.rc {j k : Nat} {L L' Z : F1} (h : OUTR k L L') (hj : j ≠ k) (hr : RC j L Z) : RC j L' Z := fun v hv => by
  have := cl_lt hv
  rw [h (32 * j + cl v) (by omega)]
  exact hr v hv
theorem wait_iI {j a : Nat} {x al : Int} {L S : F1} (hj : j < 32) (ha : a < 32) (hL : RC j L S) (hS : -1 ≤ S a ∧ S a ≤ 120) (hx : SAY x al) : ∃ L' : F1, mX7_mayWait (iI (j : Int)) (iI ((cl a : Nat) : Int)) (iI x) (iF L) = iF L' ∧ RC j L' (upI S a (up1 (S a) al)) ∧ OUTR j L L' := by
  have hc := cl_lt ha
  have ei : ((j : Int) * 32 + ((cl a : Nat) : Int)).toNat = 32 * j + cl a := by omega
  have b1 : mX9_at 1024 (iI ((j : Int) * 32 + ((cl a : Nat) : Int))) (iF L) = iI (S a) := by rw [at_iI (by omega) (by omega) (by omega), at_in (by omega) (by omega), ei, hL a ha]
  obtain ⟨s1, s2, s3⟩ := hx
  rw [mX7_mayWait, iI_mul, iI_add, b1]
  by_cases c : x ≤ S a
  · refine ⟨L, ?_, ?_, OUTR.rf _ _⟩
    · rw [if_pos ((iI_le (by omega) (by omega) (by omega) (by omega)).mpr c)]
    · rw [up1, if_neg (by omega), upI_self]; exact hL
  · refine ⟨upI L (32 * j + cl a) x, ?_, fun v hv => ?_, OUTR.up hc x⟩
    · rw [if_neg (fun y => c ((iI_le (by omega) (by omega) (by omega) (by omega)).mp y)), pu_iI (by omega) (by omega) (by omega), pu_in (by omega) (by omega), ei]
    · rw [up1, if_pos (by omega), ← (show x = al by omega)]
      by_cases e : v = a
      · subst e; rw [upI_s, upI_s]
      · rw [upI_n e, upI_n (fun y => e (cl_inj hv ha (by omega)))]; exact hL v hv
theorem latest_iI {j b : Nat} {L Z : F1} (hj : j < 32) (hb : b < 32) (hL : RC j L Z) : mX7_latestAt (iI (j : Int)) (iI ((cl b : Nat) : Int)) (iF L) = iI (Z b) := by
  have hc := cl_lt hb
  have ei : ((j : Int) * 32 + ((cl b : Nat) : Int)).toNat = 32 * j + cl b := by omega
  rw [mX7_latestAt, if_neg (fun y => by have := (iI_eq (by omega) (by omega) (by omega) (by omega)).mp y; omega), iI_mul, iI_add, at_iI (by omega) (by omega) (by omega), at_in (by omega) (by omega), ei, hL b hb]
theorem departure_iI (hw : WV n tr A B Ho BG DN) {l v : Nat} {h : Int} (hl : (l : Int) < n) (hv : v < 32) (hh : -1 ≤ h ∧ h ≤ 120) : mX3_departure (iI (l : Int)) (iI ((v / 16 : Nat) : Int)) (iI h) (iF Ho) (iF BG) (iF DN) = some (iI (AL tr Ho BG DN l v h)) := by
  have h30 := hw.2.1
  obtain ⟨a0, a1, b0, b1, ne, h0, h1⟩ := hw.2.2.2.2.1 l hl
  obtain ⟨g0, g1, d0, d1⟩ := hw.2.2.2.2.2 l (by omega)
  have l30 : l ≠ 30 := by omega
  have ll : (l : Int).toNat = l := by omega
  have b : ∀ F : F1, mX9_at 30 (iI (l : Int)) (iF F) = iI (F l) := fun F => by rw [at_iI (by omega) (by omega) (by omega), at_in (by omega) (by omega), ll]
  by_cases c : 16 ≤ v
  · have e1 : ((v / 16 : Nat) : Int) = 1 := by omega
    have n1 : ¬ iI 1 = 0 := by decide
    rw [e1, mX3_departure, if_neg n1, b, mX3_departure_J19, if_neg n1, mX3_departure_J44, b, iI_sub]
    by_cases d : DN l ≤ h - Ho l
    · rw [if_pos ((iI_le (by omega) (by omega) (by omega) (by omega)).mpr d)]
      have e2 : LW tr Ho BG DN l v h = h - Ho l := by rw [LW_new l30 c, if_pos d]
      rw [AL, e2, if_pos (by omega)]
    · rw [if_neg (fun k => d ((iI_le (by omega) (by omega) (by omega) (by omega)).mp k))]
      have e2 : LW tr Ho BG DN l v h = -1 := by rw [LW_new l30 c, if_neg d]
      rw [AL, e2, if_neg (by omega)]
  · have e1 : ((v / 16 : Nat) : Int) = 0 := by omega
    have e0 : iI 0 = 0 := rfl
    have e2 : LW tr Ho BG DN l v h = if BG l ≤ h then BG l - Ho l else h - Ho l := LW_old l30 c
    rw [e1, mX3_departure, if_pos e0, mX3_departure_J19, if_pos e0, b]
    have key : ∀ s : Int, (s = h ∨ s = BG l) → s ≤ h → s ≤ BG l → mX3_departure_J44 (iI (l : Int)) (iF Ho) (iI s) (iI 0) = some (iI (AL tr Ho BG DN l v h)) := fun s hs s1 s2 => by
      have e3 : LW tr Ho BG DN l v h = s - Ho l := by rw [e2]; split <;> omega
      rw [mX3_departure_J44, b, iI_sub, AL, e3]
      by_cases d : 0 ≤ s - Ho l
      · rw [if_pos ((iI_le (by omega) (by omega) (by omega) (by omega)).mpr d), if_pos (by omega)]
      · rw [if_neg (fun k => d ((iI_le (by omega) (by omega) (by omega) (by omega)).mp k)), if_neg (by omega)]
    by_cases d : BG l < h
    · rw [if_pos ((iI_lt (by omega) (by omega) (by omega) (by omega)).mpr d)]
      exact key (BG l) (Or.inr rfl) (by omega) (by omega)
    · rw [if_neg (fun k => d ((iI_lt (by omega) (by omega) (by omega) (by omega)).mp k))]
      exact key h (Or.inl rfl) (by omega) (by omega)
/-- the latest of all stands, of the edges of D -/
def MXC (n tr : Int) (A B Ho BG DN : F1) (D : Nat → Nat → Prop) (Z S : F1) : Prop := ∀ a : Nat, a < 32 → MXD n tr A B Ho BG DN (D a) Z a (S a)
theorem MXC.step (hw : WV n tr A B Ho BG DN) {D D' : Nat → Nat → Prop} {Z S : F1} (h : MXC n tr A B Ho BG DN D Z S) {a e b : Nat} (ha : a < 32) (he : e ≤ 30) (hb : b < 32) (hh : BH n A B e a = (b : Int)) (hZ : HL Z) (hD : ∀ a' e' b' : Nat, a' < 32 → e' ≤ 30 → b' < 32 → BH n A B e' a' = (b' : Int) → D' a' e' → D a' e' ∨ (a' = a ∧ e' = e)) : MXC n tr A B Ho BG DN D' Z (upI S a (up1 (S a) (AL tr Ho BG DN e a (Z b)))) := by
  intro a' ha'
  by_cases c : a' = a
  · subst c
    rw [upI_s]
    refine (h a' ha).up hw he hb hh (hZ b hb) fun e' b' he' hb' hh' hp => ?_
    rcases hD a' e' b' ha he' hb' hh' hp with q | ⟨-, q⟩
    · exact Or.inl q
    · exact Or.inr q
  · rw [upI_n c]
    refine (h a' ha').weak fun e' b' he' hb' hh' hp => ?_
    rcases hD a' e' b' ha' he' hb' hh' hp with q | ⟨q, -⟩
    · exact q
    · exact absurd q c
theorem MXC.weak {D D' : Nat → Nat → Prop} {Z S : F1} (h : MXC n tr A B Ho BG DN D Z S) (hD : ∀ a e b : Nat, a < 32 → e ≤ 30 → b < 32 → BH n A B e a = (b : Int) → D' a e → D a e) : MXC n tr A B Ho BG DN D' Z S := fun a ha => (h a ha).weak fun e b he hb hh hp => hD a e b ha he hb hh hp
theorem MXC.hl {D : Nat → Nat → Prop} {Z S : F1} (h : MXC n tr A B Ho BG DN D Z S) : HL S := fun v hv => ⟨(h v hv).1, (h v hv).2.1⟩
theorem lstands_go (hw : WV n tr A B Ho BG DN) {i : Nat} (hi31 : i + 1 < 32) {Z : F1} (hZ : HL Z) (kk : (Nat → Int32) → Option (Nat → Int32)) : ∀ (d u m : Nat) (L S : F1), u + d = 32 → d < m → RC i L Z → RC (i + 1) L S → MXC n tr A B Ho BG DN (fun a e => e = 30 ∧ cl a < u) Z S → ∃ L' S' : F1, mX7_reckonLatestWith_L2 (iI ((i + 1 : Nat) : Int)) (iI tr) kk m (iI (u : Int)) (iF L) = kk (iF L') ∧ RC (i + 1) L' S' ∧ OUTR (i + 1) L L' ∧ MXC n tr A B Ho BG DN (fun _ e => e = 30) Z S' := by
  intro d
  induction d with
  | zero =>
    intro u m L S hi hm hL1 hL2 h
    obtain ⟨m, rfl⟩ : ∃ a, m = a + 1 := ⟨m - 1, by omega⟩
    refine ⟨L, S, ?_, hL2, OUTR.rf _ _, h.weak fun a e b ha he hb hh hd => ⟨hd, by have := cl_lt ha; omega⟩⟩
    rw [mX7_reckonLatestWith_L2, if_pos ((iI_le (by omega) (by omega) (by omega) (by omega)).mpr (by omega))]
  | succ d ih =>
    intro u m L S hi hm hL1 hL2 h
    obtain ⟨m, rfl⟩ : ∃ a, m = a + 1 := ⟨m - 1, by omega⟩
    have hu : u < 32 := by omega
    have ha := ic_lt hu
    have ec := cl_ic hu
    have hb : (ic u + 16) % 32 < 32 := by omega
    have t0 := hw.2.2.1
    have t1 := hw.2.2.2.1
    have rz := hZ ((ic u + 16) % 32) hb
    have r := AL_in (BG := BG) (DN := DN) (v := ic u) hw (e := 30) (Or.inl rfl) rz
    have o1 : mX7_otherTrain (iI (u : Int)) = iI ((cl ((ic u + 16) % 32) : Nat) : Int) := by have := other32 (ic u) ha; rw [ec] at this; exact this
    have sy : SAY (Z ((ic u + 16) % 32) - tr) (AL tr Ho BG DN 30 (ic u) (Z ((ic u + 16) % 32))) := by
      refine ⟨r.1, r.2, ?_⟩
      rw [AL, LW_30]
      split <;> omega
    obtain ⟨L1, x1, x2, x3⟩ := wait_iI (j := i + 1) hi31 ha hL2 (h.hl _ ha) sy
    rw [ec] at x1
    obtain ⟨L', S', y1, y2, y3, y4⟩ := ih (u + 1) m L1 _ (by omega) (by omega) (x3.rc (by omega) hL1) x2 (h.step hw (D' := fun a e => e = 30 ∧ cl a < u + 1) ha (Nat.le_refl 30) hb BH_30 hZ fun a' e' b' ha' he' hb' hh' hd => by
      by_cases c : cl a' < u
      · exact Or.inl ⟨hd.1, c⟩
      · refine Or.inr ⟨cl_inj ha' ha ?_, hd.1⟩
        have := hd.2
        omega)
    refine ⟨L', S', ?_, y2, x3.go y3, y4⟩
    rw [mX7_reckonLatestWith_L2, if_neg (fun k => by have := (iI_le (by omega) (by omega) (by omega) (by omega)).mp k; omega), o1, iI_sub, show ((i + 1 : Nat) : Int) - 1 = (i : Int) by omega, latest_iI (by omega) hb hL1, iI_sub, x1, iI_add]
    exact y1
theorem topass_iI (hw : WV n tr A B Ho BG DN) {i l a b : Nat} (hi31 : i + 1 < 32) {Z S L : F1} (hZ : HL Z) (hl : (l : Int) < n) (ha : a < 32) (hb : b < 32) (hL1 : RC i L Z) (hL2 : RC (i + 1) L S) (hS : -1 ≤ S a ∧ S a ≤ 120) : ∃ L' : F1, mX7_mayWaitToPass (iI (l : Int)) (iI ((i + 1 : Nat) : Int)) (iI ((cl a : Nat) : Int)) (iI ((cl b : Nat) : Int)) (iF L) (iF Ho) (iF BG) (iF DN) = some (iF L') ∧ RC (i + 1) L' (upI S a (up1 (S a) (AL tr Ho BG DN l a (Z b)))) ∧ OUTR (i + 1) L L' := by
  have rz := hZ b hb
  have r := AL_in (v := a) hw (Or.inr hl) rz
  obtain ⟨L', x1, x2, x3⟩ := wait_iI (j := i + 1) hi31 ha hL2 hS (x := AL tr Ho BG DN l a (Z b)) ⟨r.1, r.2, Or.inl rfl⟩
  refine ⟨L', ?_, x2, x3⟩
  rw [mX7_mayWaitToPass, isNew32 a ha, iI_sub, show ((i + 1 : Nat) : Int) - 1 = (i : Int) by omega, latest_iI (by omega) hb hL1, departure_iI hw hl ha rz]
  simp only [Option.bind_some]
  rw [x1]
theorem ltrains_go (hw : WV n tr A B Ho BG DN) {i l : Nat} (hi31 : i + 1 < 32) {Z : F1} (hZ : HL Z) (hl : (l : Int) < n) (kk : (Nat → Int32) → Option (Nat → Int32)) : ∀ (d t m : Nat) (L S : F1), t + d = 2 → d < m → RC i L Z → RC (i + 1) L S → MXC n tr A B Ho BG DN (fun a e => e = 30 ∨ e < l ∨ (e = l ∧ a / 16 < t)) Z S → ∃ L' S' : F1, mX7_reckonLatestWith_L52 (iI ((i + 1 : Nat) : Int)) (iF Ho) (iF A) (iF B) (iF BG) (iF DN) (iI (l : Int)) kk m (iI (t : Int)) (iF L) = kk (iF L') ∧ RC (i + 1) L' S' ∧ OUTR (i + 1) L L' ∧ MXC n tr A B Ho BG DN (fun _ e => e = 30 ∨ e < l + 1) Z S' := by
  have h30 := hw.2.1
  obtain ⟨a0, a1, b0, b1, ne, h0, h1⟩ := hw.2.2.2.2.1 l hl
  have ll : (l : Int).toNat = l := by omega
  have l30 : l ≠ 30 := by omega
  intro d
  induction d with
  | zero =>
    intro t m L S hi hm hL1 hL2 h
    obtain ⟨m, rfl⟩ : ∃ a, m = a + 1 := ⟨m - 1, by omega⟩
    refine ⟨L, S, ?_, hL2, OUTR.rf _ _, h.weak fun a e b ha he hb hh hd => ?_⟩
    · rw [mX7_reckonLatestWith_L52, if_pos ((iI_le (by omega) (by omega) (by omega) (by omega)).mpr (by omega))]
    · rcases hd with hd | hd
      · exact Or.inl hd
      · by_cases c : e < l
        · exact Or.inr (Or.inl c)
        · exact Or.inr (Or.inr ⟨by omega, by omega⟩)
  | succ d ih =>
    intro t m L S hi hm hL1 hL2 h
    obtain ⟨m, rfl⟩ : ∃ a, m = a + 1 := ⟨m - 1, by omega⟩
    obtain ⟨a, ea⟩ : ∃ a : Nat, a = (A l).toNat + 16 * t := ⟨_, rfl⟩
    obtain ⟨b, eb⟩ : ∃ b : Nat, b = (B l).toNat + 16 * t := ⟨_, rfl⟩
    have hab := BH_ab (t := t) hw hl
    rw [← ea, ← eb] at hab
    have ha : a < 32 := by omega
    have hb : b < 32 := by omega
    have ca : ((cl a : Nat) : Int) = 2 * A l + t := by unfold cl; omega
    have cb : ((cl b : Nat) : Int) = 2 * B l + t := by unfold cl; omega
    have oa : iI 2 * mX1_oneEndOf (iI (l : Int)) (iF A) + iI (t : Int) = iI ((cl a : Nat) : Int) := by
      rw [mX1_oneEndOf, at_iI (by omega) (by omega) (by omega), at_in (by omega) (by omega), ll, iI_mul, iI_add, ca]
    have ob : iI 2 * mX1_otherEndOf (iI (l : Int)) (iF B) + iI (t : Int) = iI ((cl b : Nat) : Int) := by
      rw [mX1_otherEndOf, at_iI (by omega) (by omega) (by omega), at_in (by omega) (by omega), ll, iI_mul, iI_add, cb]
    obtain ⟨L1, x1, x2, x3⟩ := topass_iI hw hi31 hZ hl ha hb hL1 hL2 (h.hl a ha)
    have s1 := h.step hw (D' := fun a' e => e = 30 ∨ e < l ∨ (e = l ∧ (a' / 16 < t ∨ (a' / 16 = t ∧ a' % 16 = (A l).toNat)))) ha (by omega) hb hab.1 hZ (fun a' e' b' ha' he' hb' hh' hd => by
      rcases hd with hd | hd | ⟨hd, hd2 | hd2⟩
      · exact Or.inl (Or.inl hd)
      · exact Or.inl (Or.inr (Or.inl hd))
      · exact Or.inl (Or.inr (Or.inr ⟨hd, hd2⟩))
      · exact Or.inr ⟨by omega, hd⟩)
    obtain ⟨L2, y1, y2, y3⟩ := topass_iI hw hi31 hZ hl hb ha (x3.rc (by omega) hL1) x2 (s1.hl b hb)
    have s2 := s1.step hw (D' := fun a' e => e = 30 ∨ e < l ∨ (e = l ∧ a' / 16 < t + 1)) hb (by omega) ha hab.2 hZ (fun a' e' b' ha' he' hb' hh' hd => by
      rcases hd with hd | hd | ⟨hd, hd2⟩
      · exact Or.inl (Or.inl hd)
      · exact Or.inl (Or.inr (Or.inl hd))
      · subst hd
        by_cases c : a' / 16 < t
        · exact Or.inl (Or.inr (Or.inr ⟨rfl, Or.inl c⟩))
        · rcases BH_tch l30 hh' with e | e
          · exact Or.inl (Or.inr (Or.inr ⟨rfl, Or.inr ⟨by omega, by omega⟩⟩))
          · exact Or.inr ⟨by omega, rfl⟩)
    obtain ⟨L', S', z1, z2, z3, z4⟩ := ih (t + 1) m L2 _ (by omega) (by omega) (y3.rc (by omega) (x3.rc (by omega) hL1)) y2 s2
    refine ⟨L', S', ?_, z2, (x3.go y3).go z3, z4⟩
    rw [mX7_reckonLatestWith_L52, if_neg (fun k => by have := (iI_le (by omega) (by omega) (by omega) (by omega)).mp k; omega), oa, ob, x1]
    simp only [Option.bind_some]
    rw [y1]
    simp only [Option.bind_some]
    rw [iI_add]
    exact z1
theorem llines_go (hw : WV n tr A B Ho BG DN) {i : Nat} (hi31 : i + 1 < 32) {Z : F1} (hZ : HL Z) : ∀ (d l m : Nat) (L S : F1), (l : Int) + d = n → d < m → RC i L Z → RC (i + 1) L S → MXC n tr A B Ho BG DN (fun _ e => e = 30 ∨ e < l) Z S → ∃ L' S' : F1, mX7_reckonLatestWith_L38 (iI ((i + 1 : Nat) : Int)) (iI n) (iF Ho) (iF A) (iF B) (iF BG) (iF DN) m (iI (l : Int)) (iF L) = some (iF L') ∧ RC (i + 1) L' S' ∧ OUTR (i + 1) L L' ∧ MXC n tr A B Ho BG DN (fun _ e => e = 30 ∨ (e : Int) < n) Z S' := by
  have h30 := hw.2.1
  have hkF := kF_ge
  intro d
  induction d with
  | zero =>
    intro l m L S hi hm hL1 hL2 h
    obtain ⟨m, rfl⟩ : ∃ a, m = a + 1 := ⟨m - 1, by omega⟩
    refine ⟨L, S, ?_, hL2, OUTR.rf _ _, h.weak fun a e b ha he hb hh hd => ?_⟩
    · rw [mX7_reckonLatestWith_L38, if_pos ((iI_le (by omega) (by omega) (by omega) (by omega)).mpr (by omega))]
    · rcases hd with hd | hd
      · exact Or.inl hd
      · exact Or.inr (by omega)
  | succ d ih =>
    intro l m L S hi hm hL1 hL2 h
    obtain ⟨m, rfl⟩ : ∃ a, m = a + 1 := ⟨m - 1, by omega⟩
    obtain ⟨L1, S1, x1, x2, x3, x4⟩ := ltrains_go hw hi31 hZ (l := l) (by omega) (fun (t_latest_12 : Nat → Int32) => (mX7_reckonLatestWith_L38 (iI ((i + 1 : Nat) : Int)) (iI n) (iF Ho) (iF A) (iF B) (iF BG) (iF DN) m ((iI (l : Int)) + (iI 1)) t_latest_12)) 2 0 kF L S (by omega) (by omega) hL1 hL2 (h.weak fun a e b ha he hb hh hd => by
      rcases hd with hd | hd | hd
      · exact Or.inl hd
      · exact Or.inr hd
      · omega)
    obtain ⟨L', S', z1, z2, z3, z4⟩ := ih (l + 1) m L1 S1 (by omega) (by omega) (x3.rc (by omega) hL1) x2 x4
    refine ⟨L', S', ?_, z2, x3.go z3, z4⟩
    rw [mX7_reckonLatestWith_L38, if_neg (fun k => by have := (iI_le (by omega) (by omega) (by omega) (by omega)).mp k; omega)]
    refine x1.trans ?_
    show mX7_reckonLatestWith_L38 _ _ _ _ _ _ _ m (iI (l : Int) + iI 1) (iF L1) = _
    rw [iI_add]
    exact z1
theorem with_go (hw : WV n tr A B Ho BG DN) {i : Nat} (hi31 : i + 1 < 32) {Z L : F1} (hZ : HL Z) (hL1 : RC i L Z) (hL2 : RC (i + 1) L (fun _ => -1)) : ∃ L' S' : F1, mX7_reckonLatestWith (iI ((i + 1 : Nat) : Int)) (iI tr) (iF L) (iI n) (iF Ho) (iF A) (iF B) (iF BG) (iF DN) = some (iF L') ∧ RC (i + 1) L' S' ∧ OUTR (i + 1) L L' ∧ ∀ a : Nat, a < 32 → MXD n tr A B Ho BG DN (fun _ => True) Z a (S' a) := by
  have hkF := kF_ge
  have n0 := hw.1
  have h30 := hw.2.1
  obtain ⟨L1, S1, x1, x2, x3, x4⟩ := lstands_go hw hi31 hZ (fun (t_latest_5 : Nat → Int32) => mX7_reckonLatestWith_L38 (iI ((i + 1 : Nat) : Int)) (iI n) (iF Ho) (iF A) (iF B) (iF BG) (iF DN) kF (iI 0) t_latest_5) 32 0 kF L (fun _ => -1) (by omega) (by omega) hL1 hL2 (fun a ha => MXD.start Z a fun e _ h => by omega)
  obtain ⟨L2, S2, y1, y2, y3, y4⟩ := llines_go hw hi31 hZ n.toNat 0 kF L1 S1 (by omega) (by omega) (x3.rc (by omega) hL1) x2 (x4.weak fun a e b ha he hb hh hd => by
    rcases hd with hd | hd
    · exact hd
    · omega)
  refine ⟨L2, S2, ?_, y2, x3.go y3, fun a ha => (y4 a ha).weak fun e b he hb hh _ => BH_v hh⟩
  rw [mX7_reckonLatestWith]
  exact x1.trans y1
theorem lates_go (hw : WV n tr A B Ho BG DN) {f : Nat} (hf : f ≤ 31) {Z : Nat → F1} (hz : ∀ i : Nat, i < f → HL (Z i)) (hZ : ∀ i : Nat, i + 1 < f → ∀ a : Nat, a < 32 → MXD n tr A B Ho BG DN (fun _ => True) (Z i) a (Z (i + 1) a)) : ∀ (d j m : Nat) (L : F1), j + 1 + d = f → d < m → (∀ i : Nat, i ≤ j → RC i L (Z i)) → (∀ i : Nat, 32 * (j + 1) ≤ i → i < 1024 → L i = -1) → ∃ L' : F1, mX7_reckonLatest_L41 (iI (f : Int)) (iI tr) (iI n) (iF Ho) (iF A) (iF B) (iF BG) (iF DN) m (iI ((j + 1 : Nat) : Int)) (iF L) = some (iF L') ∧ ∀ i : Nat, i < f → RC i L' (Z i) := by
  intro d
  induction d with
  | zero =>
    intro j m L hi hm h1 h2
    obtain ⟨m, rfl⟩ : ∃ a, m = a + 1 := ⟨m - 1, by omega⟩
    refine ⟨L, ?_, fun i hi => h1 i (by omega)⟩
    rw [mX7_reckonLatest_L41, if_pos ((iI_le (by omega) (by omega) (by omega) (by omega)).mpr (by omega))]
  | succ d ih =>
    intro j m L hi hm h1 h2
    obtain ⟨m, rfl⟩ : ∃ a, m = a + 1 := ⟨m - 1, by omega⟩
    obtain ⟨L1, S1, x1, x2, x3, x4⟩ := with_go hw (i := j) (by omega) (hz j (by omega)) (h1 j (Nat.le_refl j)) (fun v hv => h2 _ (by omega) (by have := cl_lt hv; omega))
    obtain ⟨L', y1, y2⟩ := ih (j + 1) m L1 (by omega) (by omega) (fun i hi => by
      by_cases c : i = j + 1
      · subst c
        intro v hv
        rw [x2 v hv]
        exact (x4 v hv).eq (hZ j (by omega) v hv) fun _ _ => rfl
      · exact x3.rc c (h1 i (by omega))) (fun i h3 h4 => by rw [x3 i (by omega)]; exact h2 i (by omega) h4)
    refine ⟨L', ?_, y2⟩
    rw [mX7_reckonLatest_L41, if_neg (fun k => by have := (iI_le (by omega) (by omega) (by omega) (by omega)).mp k; omega), x1]
    simp only [Option.bind_some]
    rw [iI_add]
    exact y1
theorem late2 (hw : WV n tr A B Ho BG DN) {to f : Nat} {c : Int} (ht : to < 16) (hf : f ≤ 31) (hc : 0 ≤ c ∧ c ≤ 120) {Z : Nat → F1} (h0 : ∀ v : Nat, v < 32 → Z 0 v = if v % 16 = to then c else -1) (hZ : ∀ i : Nat, i < f → ∀ a : Nat, a < 32 → MXD n tr A B Ho BG DN (fun _ => True) (Z i) a (Z (i + 1) a)) (L : F1) : ∃ L' : F1, mX7_reckonLatest (iI (to : Int)) (iI (f : Int)) (iI tr) (iI c) (iF L) (iI n) (iF Ho) (iF A) (iF B) (iF BG) (iF DN) = some (iF L') ∧ ∀ i : Nat, i < f → RC i L' (Z i) := by
  have hkF := kF_ge
  have e1 : (fun j => if j < 1024 then iI (-1) else iF L j) = iF (fun j => if j < 1024 then -1 else L j) := funext fun j => by
    show (if j < 1024 then iI (-1) else iI (L j)) = iI (if j < 1024 then -1 else L j)
    split <;> rfl
  have t1 : (2 * (to : Int)).toNat = 2 * to := by omega
  have t2 : (2 * (to : Int) + 1).toNat = 2 * to + 1 := by omega
  have hz : ∀ i : Nat, i < f → HL (Z i) := fun i hi v hv => by
    by_cases q : i = 0
    · subst q
      rw [h0 v hv]
      split <;> omega
    · have := hZ (i - 1) (by omega) v hv
      rw [show i - 1 + 1 = i by omega] at this
      exact ⟨this.1, this.2.1⟩
  rw [mX7_reckonLatest, kfill (n := 1024) (by omega), e1]
  simp only [Option.bind_some]
  rw [iI_mul, iI_add, pu_iI (by omega) (by omega) (by omega), pu_in (by omega) (by omega), t1, pu_iI (by omega) (by omega) (by omega), pu_in (by omega) (by omega), t2]
  by_cases q : f = 0
  · subst q
    obtain ⟨m, hm⟩ : ∃ m, kF = m + 1 := ⟨kF - 1, by omega⟩
    refine ⟨upI (upI (fun j => if j < 1024 then -1 else L j) (2 * to) c) (2 * to + 1) c, ?_, fun i hi => by omega⟩
    rw [hm, mX7_reckonLatest_L41, if_pos ((iI_le (by omega) (by omega) (by omega) (by omega)).mpr (by omega))]
  · refine lates_go hw hf hz (fun i hi => hZ i (by omega)) (f - 1) 0 kF _ (by omega) (by omega) (fun i hi => ?_) (fun i h1 h2 => ?_)
    · have : i = 0 := by omega
      subst this
      intro v hv
      have cv := cl_lt hv
      rw [h0 v hv, show 32 * 0 + cl v = cl v by omega]
      by_cases q1 : cl v = 2 * to + 1
      · rw [q1, upI_s, if_pos (by unfold cl at q1; omega)]
      · rw [upI_n q1]
        by_cases q2 : cl v = 2 * to
        · rw [q2, upI_s, if_pos (by unfold cl at q2; omega)]
        · rw [upI_n q2]
          exact (if_pos (show cl v < 1024 by omega)).trans (if_neg (show ¬ v % 16 = to by unfold cl at q1 q2; omega)).symm
    · rw [upI_n (by omega), upI_n (by omega)]
      exact if_pos h2
end WC
