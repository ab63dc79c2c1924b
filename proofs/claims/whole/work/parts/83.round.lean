/-! WAY: a round of the class -/
section WR
variable {n tr : Int} {A B Ho BG DN : F1}
/-- where the class keeps the stand v, and the stand kept at u -/
def cl (v : Nat) : Nat := 2 * (v % 16) + v / 16
def ic (u : Nat) : Nat := 16 * (u % 2) + u / 2
def R32 (R S : F1) : Prop := ∀ v : Nat, v < 32 → R (cl v) = S v
theorem cl_lt {v : Nat} (h : v < 32) : cl v < 32 := by unfold cl; omega
theorem ic_lt {u : Nat} (h : u < 32) : ic u < 32 := by unfold ic; omega
theorem cl_ic {u : Nat} (h : u < 32) : cl (ic u) = u := by unfold cl ic; omega
theorem cl_inj {v u : Nat} (h : v < 32) (h2 : u < 32) (e : cl v = cl u) : v = u := by unfold cl at e; omega
theorem R32.up {R S : F1} (h : R32 R S) {b : Nat} (hb : b < 32) (x : Int) : R32 (upI R (cl b) x) (upI S b x) := fun v hv => by
  by_cases e : v = b
  · subst e; rw [upI_s, upI_s]
  · rw [upI_n e, upI_n (fun y => e (cl_inj hv hb y))]; exact h v hv
theorem other32 : ∀ v : Nat, v < 32 → mX7_otherTrain (iI ((cl v : Nat) : Int)) = iI ((cl ((v + 16) % 32) : Nat) : Int) := by
  unfold mX7_otherTrain cl iI
  decide +kernel
theorem isNew32 : ∀ v : Nat, v < 32 → mX7_isNewTrain (iI ((cl v : Nat) : Int)) = iI ((v / 16 : Nat) : Int) := by
  unfold mX7_isNewTrain cl iI
  decide +kernel
/-- soonest hours: to 120, or never -/
def HR (F : F1) : Prop := ∀ v : Nat, v < 32 → (0 ≤ F v ∧ F v ≤ 120) ∨ F v = 1000000
theorem AR_hr (hw : WV n tr A B Ho BG DN) {e v : Nat} {t : Int} (he : e = 30 ∨ (e : Int) < n) (ht : (0 ≤ t ∧ t ≤ 120) ∨ t = 1000000) : (0 ≤ AR tr Ho BG DN e v t ∧ AR tr Ho BG DN e v t ≤ 120) ∨ AR tr Ho BG DN e v t = 1000000 := by
  have h1 := AW_ge (BG := BG) (DN := DN) (v := v) hw.2.2.1 hw.ho he (t := t) (by omega)
  unfold AR
  split <;> omega
def fw (x : Int) : Int := if x ≤ 120 then x else 1000000
def fg (x : Int) (S : F1) (b : Nat) : Int := if fw x < S b then 1 else 0
def rw_ (x : Int) (S : F1) (b : Nat) : F1 := if fw x < S b then upI S b (fw x) else S
theorem comeTo_iI {R S : F1} (h : R32 R S) (hS : HR S) {b : Nat} (hb : b < 32) {x : Int} (hx : 0 ≤ x ∧ x ≤ 2000000) : ∃ R' : F1, mX7_comeTo (iI ((cl b : Nat) : Int)) (iI x) (iF R) = some (iI (fg x S b), iF R') ∧ R32 R' (rw_ x S b) ∧ HR (rw_ x S b) := by
  have hc := cl_lt hb
  have e := h b hb
  have r := hS b hb
  have tc : ((cl b : Nat) : Int).toNat = cl b := by omega
  have b1 : mX9_at 32 (iI ((cl b : Nat) : Int)) (iF R) = iI (S b) := by rw [at_iI (by omega) (by omega) (by omega), at_in (by omega) (by omega), tc, e]
  have g1 : mX9_put 32 (iI ((cl b : Nat) : Int)) (iI x) (iF R) = iF (upI R (cl b) x) := by rw [pu_iI (by omega) (by omega) (by omega), pu_in (by omega) (by omega), tc]
  by_cases c : 120 < x
  · have f9 : fw x = 1000000 := if_neg (by omega)
    have nn : ¬ fw x < S b := by rw [f9]; omega
    refine ⟨R, ?_, ?_⟩
    · rw [mX7_comeTo, if_pos ((iI_lt (by omega) (by omega) (by omega) (by omega)).mpr c), fg, if_neg nn]
    · rw [rw_, if_neg nn]
      exact ⟨h, hS⟩
  · have f : fw x = x := if_pos (by omega)
    by_cases d : x < S b
    · refine ⟨upI R (cl b) x, ?_, ?_⟩
      · rw [mX7_comeTo, if_neg (fun y => c ((iI_lt (by omega) (by omega) (by omega) (by omega)).mp y)), b1, if_pos ((iI_lt (by omega) (by omega) (by omega) (by omega)).mpr d), g1, fg, f, if_pos d]
      · rw [rw_, f, if_pos d]
        refine ⟨h.up hb x, fun v hv => ?_⟩
        by_cases y : v = b
        · subst y; rw [upI_s]; omega
        · rw [upI_n y]; exact hS v hv
    · refine ⟨R, ?_, ?_⟩
      · rw [mX7_comeTo, if_neg (fun y => c ((iI_lt (by omega) (by omega) (by omega) (by omega)).mp y)), b1, if_neg (fun y => d ((iI_lt (by omega) (by omega) (by omega) (by omega)).mp y)), fg, f, if_neg d]
      · rw [rw_, f, if_neg d]
        exact ⟨h, hS⟩
theorem rw_rlx {x : Int} {e a b : Nat} {Y S : F1} (h : fw x = AR tr Ho BG DN e a (Y a)) : rw_ x S b = rlx tr Ho BG DN e a b Y S := by
  unfold rw_ rlx
  rw [h]
theorem arrival_iI (hw : WV n tr A B Ho BG DN) {l v : Nat} {t : Int} (hl : (l : Int) < n) (hv : v < 32) (ht : 0 ≤ t ∧ t ≤ 1000000) : mX3_arrival (iI (l : Int)) (iI ((v / 16 : Nat) : Int)) (iI t) (iF Ho) (iF BG) (iF DN) = some (iI (AR tr Ho BG DN l v t)) := by
  have h30 := hw.2.1
  obtain ⟨a0, a1, b0, b1, ne, h0, h1⟩ := hw.2.2.2.2.1 l hl
  obtain ⟨g0, g1, d0, d1⟩ := hw.2.2.2.2.2 l (by omega)
  have l30 : l ≠ 30 := by omega
  have ll : (l : Int).toNat = l := by omega
  have b : ∀ F : F1, mX9_at 30 (iI (l : Int)) (iF F) = iI (F l) := fun F => by rw [at_iI (by omega) (by omega) (by omega), at_in (by omega) (by omega), ll]
  by_cases c : 16 ≤ v
  · have e1 : ((v / 16 : Nat) : Int) = 1 := by omega
    have n1 : ¬ iI 1 = 0 := by decide
    have key : ∀ s : Int, 0 ≤ s → s ≤ 1000000 → AW tr Ho BG DN l v t = s + Ho l → mX3_arrival_J23 (iI (l : Int)) (iI 1) (iF Ho) (iF BG) (iI s) = some (iI (AR tr Ho BG DN l v t)) := fun s s0 s1 es => by
      rw [mX3_arrival_J23, if_neg n1, b, iI_add, AR, es]
      by_cases d : s + Ho l ≤ 120
      · rw [if_pos ((iI_le (by omega) (by omega) (by omega) (by omega)).mpr d), if_pos d]
      · rw [if_neg (fun k => d ((iI_le (by omega) (by omega) (by omega) (by omega)).mp k)), if_neg d]
    rw [e1, mX3_arrival, if_neg n1, b]
    by_cases d : t < DN l
    · rw [if_pos ((iI_lt (by omega) (by omega) (by omega) (by omega)).mpr d)]
      exact key (DN l) d0 d1 (by rw [AW_new l30 c, if_neg (by omega)])
    · rw [if_neg (fun k => d ((iI_lt (by omega) (by omega) (by omega) (by omega)).mp k))]
      exact key t ht.1 ht.2 (by rw [AW_new l30 c, if_pos (by omega)])
  · have e1 : ((v / 16 : Nat) : Int) = 0 := by omega
    have e2 : AR tr Ho BG DN l v t = gO Ho BG l t := by
      rw [AR, AW_old l30 c, gO]
      by_cases d : BG l < t + Ho l
      · rw [if_pos d, if_neg (by omega), if_neg (by omega)]
      · rw [if_neg d]
        by_cases d2 : t + Ho l ≤ 120
        · rw [if_pos d2, if_pos (by omega)]
        · rw [if_neg d2, if_neg (by omega)]
    rw [e1, e2]
    exact arr_old (by omega) ht ⟨h0, h1⟩ ⟨g0, g1⟩
theorem fw_AR {e v : Nat} {t : Int} : fw (AR tr Ho BG DN e v t) = AR tr Ho BG DN e v t := by
  unfold fw AR
  by_cases c : AW tr Ho BG DN e v t ≤ 120
  · rw [if_pos c, if_pos c]
  · rw [if_neg c, if_neg (by omega)]
theorem pass_go (hw : WV n tr A B Ho BG DN) {R RY S Y : F1} (h : R32 R S) (hS : HR S) (hY : R32 RY Y) (hy : HR Y) {l a b : Nat} (hl : (l : Int) < n) (ha : a < 32) (hb : b < 32) : ∃ R' : F1, mX7_pass (iI (l : Int)) (iI ((cl a : Nat) : Int)) (iI ((cl b : Nat) : Int)) (iF R) (iF RY) (iF Ho) (iF BG) (iF DN) = some (iI (if AR tr Ho BG DN l a (Y a) < S b then 1 else 0), iF R') ∧ R32 R' (rlx tr Ho BG DN l a b Y S) ∧ HR (rlx tr Ho BG DN l a b Y S) := by
  have hc := cl_lt ha
  have tc : ((cl a : Nat) : Int).toNat = cl a := by omega
  have b1 : mX9_at 32 (iI ((cl a : Nat) : Int)) (iF RY) = iI (Y a) := by rw [at_iI (by omega) (by omega) (by omega), at_in (by omega) (by omega), tc, hY a ha]
  have ry := hy a ha
  have r2 := AR_hr (v := a) hw (Or.inr hl) ry
  obtain ⟨R', x1, x2, x3⟩ := comeTo_iI h hS hb (x := AR tr Ho BG DN l a (Y a)) (by omega)
  rw [rw_rlx (e := l) (a := a) (Y := Y) fw_AR] at x2 x3
  refine ⟨R', ?_, x2, x3⟩
  rw [mX7_pass, isNew32 a ha, b1, arrival_iI hw hl ha (by omega)]
  simp only [Option.bind_some]
  rw [x1]
  simp only [Option.bind_some, fg, fw_AR]
/-- a round under way, with what is told of it -/
def RD (n tr : Int) (A B Ho BG DN : F1) (D : Nat → Nat → Prop) (Y S : F1) (f : Int) : Prop := MINP n tr A B Ho BG DN D Y Y S ∧ HR S ∧ (f = 0 ∨ f = 1) ∧ (f = 0 → ∀ v : Nat, v < 32 → S v = Y v)
theorem RD.step {D D' : Nat → Nat → Prop} {Y S : F1} {f : Int} (h : RD n tr A B Ho BG DN D Y S f) {a e b : Nat} (ha : a < 32) (he : e ≤ 30) (hb : b < 32) (hh : BH n A B e a = (b : Int)) (hD : ∀ a' e' b' : Nat, a' < 32 → e' ≤ 30 → b' < 32 → BH n A B e' a' = (b' : Int) → D' a' e' → D a' e' ∨ (a' = a ∧ e' = e)) (hr : HR (rlx tr Ho BG DN e a b Y S)) : RD n tr A B Ho BG DN D' Y (rlx tr Ho BG DN e a b Y S) (if AR tr Ho BG DN e a (Y a) < S b then 1 else f) := by
  refine ⟨h.1.step ha he hb hh hD, hr, ?_, fun h0 => ?_⟩
  · split
    · exact Or.inr rfl
    · exact h.2.2.1
  · by_cases c : AR tr Ho BG DN e a (Y a) < S b
    · rw [if_pos c] at h0; omega
    · rw [if_neg c] at h0
      rw [rlx, if_neg c]
      exact h.2.2.2 h0
theorem RD.weak {D D' : Nat → Nat → Prop} {Y S : F1} {f : Int} (h : RD n tr A B Ho BG DN D Y S f) (hD : ∀ a e b : Nat, a < 32 → e ≤ 30 → b < 32 → BH n A B e a = (b : Int) → D' a e → D a e) : RD n tr A B Ho BG DN D' Y S f := ⟨⟨h.1.1, fun a e b ha he hb hh hd => h.1.2.1 a e b ha he hb hh (hD a e b ha he hb hh hd), h.1.2.2⟩, h.2⟩
theorem BH_30 {a : Nat} : BH n A B 30 a = (((a + 16) % 32 : Nat) : Int) := if_pos rfl
theorem stands_go (hw : WV n tr A B Ho BG DN) {RY Y : F1} (hY : R32 RY Y) (hy : HR Y) (kk : Int32 → (Nat → Int32) → Option (Int32 × (Nat → Int32) × (Nat → Int32))) : ∀ (d u m : Nat) (R S : F1) (f : Int), u + d = 32 → d < m → R32 R S → RD n tr A B Ho BG DN (fun a e => e = 30 ∧ cl a < u) Y S f → ∃ (f' : Int) (R' S' : F1), mX7_allowOneStepMore_L19 (iI tr) (iF RY) kk m (iI f) (iI (u : Int)) (iF R) = kk (iI f') (iF R') ∧ R32 R' S' ∧ RD n tr A B Ho BG DN (fun _ e => e = 30) Y S' f' := by
  intro d
  induction d with
  | zero =>
    intro u m R S f hi hm hR h
    obtain ⟨m, rfl⟩ : ∃ a, m = a + 1 := ⟨m - 1, by omega⟩
    refine ⟨f, R, S, ?_, hR, h.weak fun a e b ha he hb hh hd => ⟨hd, by have := cl_lt ha; omega⟩⟩
    rw [mX7_allowOneStepMore_L19, if_pos ((iI_le (by omega) (by omega) (by omega) (by omega)).mpr (by omega))]
  | succ d ih =>
    intro u m R S f hi hm hR h
    obtain ⟨m, rfl⟩ : ∃ a, m = a + 1 := ⟨m - 1, by omega⟩
    have hu : u < 32 := by omega
    have ha := ic_lt hu
    have ec := cl_ic hu
    have hb : (ic u + 16) % 32 < 32 := by omega
    have uu : (u : Int).toNat = u := by omega
    have ry := hy (ic u) ha
    have t0 := hw.2.2.1
    have t1 := hw.2.2.2.1
    have eY : RY u = Y (ic u) := by have := hY (ic u) ha; rw [ec] at this; exact this
    have b1 : mX9_at 32 (iI (u : Int)) (iF RY) = iI (Y (ic u)) := by rw [at_iI (by omega) (by omega) (by omega), at_in (by omega) (by omega), uu, eY]
    have o1 : mX7_otherTrain (iI (u : Int)) = iI ((cl ((ic u + 16) % 32) : Nat) : Int) := by have := other32 (ic u) ha; rw [ec] at this; exact this
    have ef : fw (Y (ic u) + tr) = AR tr Ho BG DN 30 (ic u) (Y (ic u)) := by rw [fw, AR, AW_30]
    obtain ⟨R', x1, x2, x3⟩ := comeTo_iI hR h.2.1 hb (x := Y (ic u) + tr) (by omega)
    rw [rw_rlx (e := 30) (a := ic u) (Y := Y) ef] at x2 x3
    have hst := h.step (D' := fun a e => e = 30 ∧ cl a < u + 1) ha (Nat.le_refl 30) hb BH_30 (fun a' e' b' ha' he' hb' hh' hd => by
      by_cases c : cl a' < u
      · exact Or.inl ⟨hd.1, c⟩
      · refine Or.inr ⟨cl_inj ha' ha ?_, hd.1⟩
        have := hd.2
        omega) x3
    obtain ⟨f', R2, S2, y1, y2, y3⟩ := ih (u + 1) m R' _ _ (by omega) (by omega) x2 hst
    refine ⟨f', R2, S2, ?_, y2, y3⟩
    rw [mX7_allowOneStepMore_L19, if_neg (fun k => by have := (iI_le (by omega) (by omega) (by omega) (by omega)).mp k; omega), b1, o1, iI_add, x1]
    simp only [Option.bind_some]
    by_cases c : AR tr Ho BG DN 30 (ic u) (Y (ic u)) < S ((ic u + 16) % 32)
    · have n1 : ¬ iI (fg (Y (ic u) + tr) S ((ic u + 16) % 32)) = 0 := by rw [fg, ef, if_pos c]; decide
      rw [if_neg n1, iI_add]
      rw [if_pos c] at y1
      exact y1
    · have n1 : iI (fg (Y (ic u) + tr) S ((ic u + 16) % 32)) = 0 := by rw [fg, ef, if_neg c]; rfl
      rw [if_pos n1, iI_add]
      rw [if_neg c] at y1
      exact y1
theorem BH_ab (hw : WV n tr A B Ho BG DN) {l t : Nat} (hl : (l : Int) < n) : BH n A B l ((A l).toNat + 16 * t) = (((B l).toNat + 16 * t : Nat) : Int) ∧ BH n A B l ((B l).toNat + 16 * t) = (((A l).toNat + 16 * t : Nat) : Int) := by
  obtain ⟨a0, a1, b0, b1, ne, h0, h1⟩ := hw.2.2.2.2.1 l hl
  have h30 := hw.2.1
  constructor
  · rw [BH, if_neg (by omega), if_pos hl, if_pos (by omega)]; omega
  · rw [BH, if_neg (by omega), if_pos hl, if_neg (by omega), if_pos (by omega)]; omega
theorem BH_tch {l a b : Nat} (h30 : l ≠ 30) (h : BH n A B l a = (b : Int)) : A l = ((a % 16 : Nat) : Int) ∨ B l = ((a % 16 : Nat) : Int) := by
  unfold BH at h
  rw [if_neg h30] at h
  split at h
  · split at h
    · rename_i c; exact Or.inl c
    · split at h
      · rename_i c; exact Or.inr c
      · omega
  · omega
theorem trains_go (hw : WV n tr A B Ho BG DN) {RY Y : F1} (hY : R32 RY Y) (hy : HR Y) {l : Nat} (hl : (l : Int) < n) (kk : Int32 → (Nat → Int32) → Option (Int32 × (Nat → Int32) × (Nat → Int32))) : ∀ (d t m : Nat) (R S : F1) (f : Int), t + d = 2 → d < m → R32 R S → RD n tr A B Ho BG DN (fun a e => e = 30 ∨ e < l ∨ (e = l ∧ a / 16 < t)) Y S f → ∃ (f' : Int) (R' S' : F1), mX7_allowOneStepMore_L73 (iF RY) (iF Ho) (iF A) (iF B) (iF BG) (iF DN) (iI (l : Int)) kk m (iI f) (iI (t : Int)) (iF R) = kk (iI f') (iF R') ∧ R32 R' S' ∧ RD n tr A B Ho BG DN (fun _ e => e = 30 ∨ e < l + 1) Y S' f' := by
  have h30 := hw.2.1
  obtain ⟨a0, a1, b0, b1, ne, h0, h1⟩ := hw.2.2.2.2.1 l hl
  have ll : (l : Int).toNat = l := by omega
  have l30 : l ≠ 30 := by omega
  intro d
  induction d with
  | zero =>
    intro t m R S f hi hm hR h
    obtain ⟨m, rfl⟩ : ∃ a, m = a + 1 := ⟨m - 1, by omega⟩
    refine ⟨f, R, S, ?_, hR, h.weak fun a e b ha he hb hh hd => ?_⟩
    · rw [mX7_allowOneStepMore_L73, if_pos ((iI_le (by omega) (by omega) (by omega) (by omega)).mpr (by omega))]
    · rcases hd with hd | hd
      · exact Or.inl hd
      · by_cases c : e < l
        · exact Or.inr (Or.inl c)
        · exact Or.inr (Or.inr ⟨by omega, by omega⟩)
  | succ d ih =>
    intro t m R S f hi hm hR h
    obtain ⟨m, rfl⟩ : ∃ a, m = a + 1 := ⟨m - 1, by omega⟩
    obtain ⟨a, ea⟩ : ∃ a : Nat, a = (A l).toNat + 16 * t := ⟨_, rfl⟩
    obtain ⟨b, eb⟩ : ∃ b : Nat, b = (B l).toNat + 16 * t := ⟨_, rfl⟩
    have hab := BH_ab (t := t) hw hl
    rw [← ea, ← eb] at hab
    have ha : a < 32 := by omega
    have hb : b < 32 := by omega
    have ca : ((cl a : Nat) : Int) = 2 * A l + t := by unfold cl; omega
    have cb : ((cl b : Nat) : Int) = 2 * B l + t := by unfold cl; omega
    have oa : iI 2 * mX1_oneEndOf (iI (l : Int)) (iF A) + iI (t : Int) = iI ((cl a : Nat) : Int) := by
      rw [mX1_oneEndOf, at_iI (by omega) (by omega) (by omega), at_in (by omega) (by omega), ll, iI_mul, iI_add, ca]
    have ob : iI 2 * mX1_otherEndOf (iI (l : Int)) (iF B) + iI (t : Int) = iI ((cl b : Nat) : Int) := by
      rw [mX1_otherEndOf, at_iI (by omega) (by omega) (by omega), at_in (by omega) (by omega), ll, iI_mul, iI_add, cb]
    obtain ⟨R1, x1, x2, x3⟩ := pass_go hw hR h.2.1 hY hy hl ha hb
    have s1 := h.step (D' := fun a' e => e = 30 ∨ e < l ∨ (e = l ∧ (a' / 16 < t ∨ (a' / 16 = t ∧ a' % 16 = (A l).toNat)))) ha (by omega) hb hab.1 (fun a' e' b' ha' he' hb' hh' hd => by
      rcases hd with hd | hd | ⟨hd, hd2 | hd2⟩
      · exact Or.inl (Or.inl hd)
      · exact Or.inl (Or.inr (Or.inl hd))
      · exact Or.inl (Or.inr (Or.inr ⟨hd, hd2⟩))
      · exact Or.inr ⟨by omega, hd⟩) x3
    obtain ⟨R2, y1, y2, y3⟩ := pass_go hw x2 s1.2.1 hY hy hl hb ha
    have s2 := s1.step (D' := fun a' e => e = 30 ∨ e < l ∨ (e = l ∧ a' / 16 < t + 1)) hb (by omega) ha hab.2 (fun a' e' b' ha' he' hb' hh' hd => by
      rcases hd with hd | hd | ⟨hd, hd2⟩
      · exact Or.inl (Or.inl hd)
      · exact Or.inl (Or.inr (Or.inl hd))
      · subst hd
        by_cases c : a' / 16 < t
        · exact Or.inl (Or.inr (Or.inr ⟨rfl, Or.inl c⟩))
        · rcases BH_tch l30 hh' with e | e
          · exact Or.inl (Or.inr (Or.inr ⟨rfl, Or.inr ⟨by omega, by omega⟩⟩))
          · exact Or.inr ⟨by omega, rfl⟩) y3
    obtain ⟨f', R3, S3, z1, z2, z3⟩ := ih (t + 1) m R2 _ _ (by omega) (by omega) y2 s2
    refine ⟨f', R3, S3, ?_, z2, z3⟩
    have n0 : iI 0 = 0 := rfl
    have n1 : ¬ iI 1 = 0 := by decide
    have half : ∀ g : Int, g = (if AR tr Ho BG DN l a (Y a) < S b then 1 else f) → mX7_allowOneStepMore_J124 (iF Ho) (iF BG) (iF DN) (fun (v2_15 : Int32) (v4_15 : Int32) (t_sooner_15 : Nat → Int32) => (mX7_allowOneStepMore_L73 (iF RY) (iF Ho) (iF A) (iF B) (iF BG) (iF DN) (iI (l : Int)) kk m v2_15 v4_15 t_sooner_15)) (iI g) (iI (l : Int)) (iI (t : Int)) (iI ((cl a : Nat) : Int)) (iI ((cl b : Nat) : Int)) (iF R1) (iF RY) = kk (iI f') (iF R3) := by
      intro g eg
      rw [mX7_allowOneStepMore_J124, y1]
      simp only [Option.bind_some]
      rw [← eg] at z1
      by_cases c : AR tr Ho BG DN l b (Y b) < rlx tr Ho BG DN l a b Y S a
      · rw [if_pos c] at z1 ⊢
        rw [if_neg n1, iI_add]
        exact z1
      · rw [if_neg c] at z1 ⊢
        rw [if_pos n0, iI_add]
        exact z1
    rw [mX7_allowOneStepMore_L73, if_neg (fun k => by have := (iI_le (by omega) (by omega) (by omega) (by omega)).mp k; omega), oa, ob, x1]
    simp only [Option.bind_some]
    by_cases c : AR tr Ho BG DN l a (Y a) < S b
    · have n2 : ¬ iI (if AR tr Ho BG DN l a (Y a) < S b then 1 else 0) = 0 := by rw [if_pos c]; exact n1
      rw [if_neg n2]
      exact half 1 (if_pos c).symm
    · have n2 : iI (if AR tr Ho BG DN l a (Y a) < S b then 1 else 0) = 0 := by rw [if_neg c]; rfl
      rw [if_pos n2]
      exact half f (if_neg c).symm
theorem lines_go (hw : WV n tr A B Ho BG DN) {RY Y : F1} (hY : R32 RY Y) (hy : HR Y) (kk : Int32 → (Nat → Int32) → Option (Int32 × (Nat → Int32) × (Nat → Int32))) : ∀ (d l m : Nat) (R S : F1) (f : Int), (l : Int) + d = n → d < m → R32 R S → RD n tr A B Ho BG DN (fun _ e => e = 30 ∨ e < l) Y S f → ∃ (f' : Int) (R' S' : F1), mX7_allowOneStepMore_L59 (iF RY) (iI n) (iF Ho) (iF A) (iF B) (iF BG) (iF DN) kk m (iI f) (iI (l : Int)) (iF R) = kk (iI f') (iF R') ∧ R32 R' S' ∧ RD n tr A B Ho BG DN (fun _ e => e = 30 ∨ (e : Int) < n) Y S' f' := by
  have h30 := hw.2.1
  have hkF := kF_ge
  intro d
  induction d with
  | zero =>
    intro l m R S f hi hm hR h
    obtain ⟨m, rfl⟩ : ∃ a, m = a + 1 := ⟨m - 1, by omega⟩
    refine ⟨f, R, S, ?_, hR, h.weak fun a e b ha he hb hh hd => ?_⟩
    · rw [mX7_allowOneStepMore_L59, if_pos ((iI_le (by omega) (by omega) (by omega) (by omega)).mpr (by omega))]
    · rcases hd with hd | hd
      · exact Or.inl hd
      · exact Or.inr (by omega)
  | succ d ih =>
    intro l m R S f hi hm hR h
    obtain ⟨m, rfl⟩ : ∃ a, m = a + 1 := ⟨m - 1, by omega⟩
    obtain ⟨f1, R1, S1, x1, x2, x3⟩ := trains_go hw hY hy (l := l) (by omega) (fun (v2_17 : Int32) (t_sooner_17 : Nat → Int32) => (mX7_allowOneStepMore_L59 (iF RY) (iI n) (iF Ho) (iF A) (iF B) (iF BG) (iF DN) kk m v2_17 ((iI (l : Int)) + (iI 1)) t_sooner_17)) 2 0 kF R S f (by omega) (by omega) hR (h.weak fun a e b ha he hb hh hd => by
      rcases hd with hd | hd | hd
      · exact Or.inl hd
      · exact Or.inr hd
      · omega)
    obtain ⟨f', R3, S3, z1, z2, z3⟩ := ih (l + 1) m R1 S1 f1 (by omega) (by omega) x2 x3
    refine ⟨f', R3, S3, ?_, z2, z3⟩
    rw [mX7_allowOneStepMore_L59, if_neg (fun k => by have := (iI_le (by omega) (by omega) (by omega) (by omega)).mp k; omega)]
    refine x1.trans ?_
    show mX7_allowOneStepMore_L59 _ _ _ _ _ _ _ kk m (iI f1) (iI (l : Int) + iI 1) (iF R1) = _
    rw [iI_add]
    exact z1
theorem cpy_iF (R G : F1) : va_cpy (iF R) (iF G) (Int32.toNatClampNeg (iI 0)) (Int32.toNatClampNeg (iI 0)) (Int32.toNatClampNeg (iI 32)) = iF (fun k => if k < 32 then R k else G k) := by
  rw [iI_cl (by omega) (by omega), iI_cl (by omega) (by omega)]
  refine funext fun k => ?_
  show (if (0 : Int).toNat ≤ k ∧ k < (0 : Int).toNat + (32 : Int).toNat then iI (R ((0 : Int).toNat + (k - (0 : Int).toNat))) else iI (G k)) = iI (if k < 32 then R k else G k)
  by_cases c : k < 32
  · rw [if_pos (show (0 : Int).toNat ≤ k ∧ k < (0 : Int).toNat + (32 : Int).toNat from ⟨Nat.zero_le k, by simpa using c⟩), if_pos c]
    simp
  · rw [if_neg (show ¬ ((0 : Int).toNat ≤ k ∧ k < (0 : Int).toNat + (32 : Int).toNat) from fun h => c (by simpa using h.2)), if_neg c]
/-- the whole round -/
theorem more_go (hw : WV n tr A B Ho BG DN) {RY Y : F1} (G : F1) (hY : R32 RY Y) (hy : HR Y) : ∃ (f' : Int) (G' R' S' : F1), mX7_allowOneStepMore (iI tr) (iF G) (iF RY) (iI n) (iF Ho) (iF A) (iF B) (iF BG) (iF DN) = some (iI f', iF G', iF R') ∧ R32 R' S' ∧ HR S' ∧ MINR n tr A B Ho BG DN Y Y S' ∧ (f' = 0 ∨ f' = 1) ∧ (f' = 0 → ∀ v : Nat, v < 32 → S' v = Y v) := by
  have hkF := kF_ge
  have n0 := hw.1
  have h30 := hw.2.1
  have r0 : R32 (fun k => if k < 32 then RY k else G k) Y := fun v hv => by
    show (if cl v < 32 then RY (cl v) else G (cl v)) = Y v
    rw [if_pos (cl_lt hv)]
    exact hY v hv
  obtain ⟨f1, R1, S1, x1, x2, x3⟩ := stands_go hw hY hy (fun (v2_6 : Int32) (t_sooner_6 : Nat → Int32) => mX7_allowOneStepMore_L59 (iF RY) (iI n) (iF Ho) (iF A) (iF B) (iF BG) (iF DN) (fun (v2_18 : Int32) (t_sooner_18 : Nat → Int32) => some (v2_18, t_sooner_18, (va_cpy t_sooner_18 (iF RY) (Int32.toNatClampNeg (iI 0)) (Int32.toNatClampNeg (iI 0)) (Int32.toNatClampNeg (iI 32))))) kF v2_6 (iI 0) t_sooner_6) 32 0 kF _ Y 0 (by omega) (by omega) r0 ⟨MINP.start _ (fun a e _ _ h => by omega) _ _, hy, Or.inl rfl, fun _ _ _ => rfl⟩
  obtain ⟨f2, R2, S2, y1, y2, y3⟩ := lines_go hw hY hy (fun (v2_18 : Int32) (t_sooner_18 : Nat → Int32) => some (v2_18, t_sooner_18, (va_cpy t_sooner_18 (iF RY) (Int32.toNatClampNeg (iI 0)) (Int32.toNatClampNeg (iI 0)) (Int32.toNatClampNeg (iI 32))))) n.toNat 0 kF R1 S1 f1 (by omega) (by omega) x2 (x3.weak fun a e b ha he hb hh hd => by
    rcases hd with hd | hd
    · exact hd
    · omega)
  refine ⟨f2, R2, fun k => if k < 32 then R2 k else RY k, S2, ?_, fun v hv => ?_, y3.2.1, y3.1.done fun a e b ha he hb hh => BH_v hh, y3.2.2.1, y3.2.2.2⟩
  · rw [mX7_allowOneStepMore, cpy_iF]
    refine x1.trans ?_
    refine y1.trans ?_
    show some (iI f2, iF R2, va_cpy (iF R2) (iF RY) _ _ _) = _
    rw [cpy_iF]
  · show (if cl v < 32 then R2 (cl v) else RY (cl v)) = S2 v
    rw [if_pos (cl_lt hv)]
    exact y2 v hv
end WR
