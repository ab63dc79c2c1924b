/-! WAY: how late one may be -/
section WL
variable {n tr : Int} {A B Ho BG DN X Y : F1}
def LW (tr : Int) (Ho BG DN : F1) (e v : Nat) (h : Int) : Int := if e = 30 then h - tr else if 16 ≤ v then (if DN e ≤ h - Ho e then h - Ho e else -1) else (if BG e ≤ h then BG e - Ho e else h - Ho e)
/-- the latest hour from which one comes over e by h -/
def AL (tr : Int) (Ho BG DN : F1) (e v : Nat) (h : Int) : Int := if 0 ≤ h ∧ 0 ≤ LW tr Ho BG DN e v h then LW tr Ho BG DN e v h else -1
theorem LW_30 {v : Nat} {h : Int} : LW tr Ho BG DN 30 v h = h - tr := if_pos rfl
theorem LW_new {e v : Nat} {h : Int} (he : e ≠ 30) (hv : 16 ≤ v) : LW tr Ho BG DN e v h = if DN e ≤ h - Ho e then h - Ho e else -1 := by rw [LW, if_neg he, if_pos hv]
theorem LW_old {e v : Nat} {h : Int} (he : e ≠ 30) (hv : ¬ 16 ≤ v) : LW tr Ho BG DN e v h = if BG e ≤ h then BG e - Ho e else h - Ho e := by rw [LW, if_neg he, if_neg hv]
theorem dual_LW {e v : Nat} {t h : Int} (ht : 0 ≤ t) (hh : h ≤ 120) : AW tr Ho BG DN e v t ≤ h ↔ t ≤ LW tr Ho BG DN e v h := by
  by_cases h1 : e = 30
  · subst h1
    rw [AW_30, LW_30]
    constructor <;> intro y <;> omega
  · by_cases h2 : 16 ≤ v
    · rw [AW_new h1 h2, LW_new h1 h2]
      constructor <;> intro y <;> (repeat' split at y) <;> (repeat' split) <;> omega
    · rw [AW_old h1 h2, LW_old h1 h2]
      constructor <;> intro y <;> (repeat' split at y) <;> (repeat' split) <;> omega
theorem dual {e v : Nat} {t h : Int} (ht : 0 ≤ t) (h0 : 0 ≤ h) (hh : h ≤ 120) : AW tr Ho BG DN e v t ≤ h ↔ t ≤ AL tr Ho BG DN e v h := by
  rw [dual_LW ht hh]
  unfold AL
  constructor
  · intro y
    rw [if_pos ⟨h0, by omega⟩]; exact y
  · intro y
    split at y <;> omega
theorem AL_in (hw : WV n tr A B Ho BG DN) {e v : Nat} {h : Int} (he : e = 30 ∨ (e : Int) < n) (hh : -1 ≤ h ∧ h ≤ 120) : -1 ≤ AL tr Ho BG DN e v h ∧ AL tr Ho BG DN e v h ≤ 120 := by
  have k : LW tr Ho BG DN e v h ≤ 120 := by
    have t0 := hw.2.2.1
    by_cases h1 : e = 30
    · subst h1
      rw [LW_30]; omega
    · have h3 := hw.ho e (he.resolve_left h1)
      by_cases h2 : 16 ≤ v
      · rw [LW_new h1 h2]; split <;> omega
      · rw [LW_old h1 h2]; split <;> omega
  unfold AL
  split <;> omega
theorem AL_neg {e v : Nat} {h : Int} (hh : h < 0) : AL tr Ho BG DN e v h = -1 := if_neg (by omega)
/-- the latest at the stand a, of the edges of P -/
def MXD (n tr : Int) (A B Ho BG DN : F1) (P : Nat → Prop) (Z : F1) (a : Nat) (x : Int) : Prop := -1 ≤ x ∧ x ≤ 120 ∧ (∀ e b : Nat, e ≤ 30 → b < 32 → BH n A B e a = (b : Int) → P e → AL tr Ho BG DN e a (Z b) ≤ x) ∧ (x = -1 ∨ ∃ e b : Nat, e ≤ 30 ∧ b < 32 ∧ BH n A B e a = (b : Int) ∧ x = AL tr Ho BG DN e a (Z b))
theorem MXD.start (Z : F1) (a : Nat) {P : Nat → Prop} (hP : ∀ e : Nat, e ≤ 30 → ¬ P e) : MXD n tr A B Ho BG DN P Z a (-1) := ⟨by omega, by omega, fun e b he _ _ h => absurd h (hP e he), Or.inl rfl⟩
theorem MXD.weak {P P' : Nat → Prop} {Z : F1} {a : Nat} {x : Int} (h : MXD n tr A B Ho BG DN P Z a x) (hP : ∀ e b : Nat, e ≤ 30 → b < 32 → BH n A B e a = (b : Int) → P' e → P e) : MXD n tr A B Ho BG DN P' Z a x := ⟨h.1, h.2.1, fun e b he hb hh hp => h.2.2.1 e b he hb hh (hP e b he hb hh hp), h.2.2.2⟩
def up1 (x y : Int) : Int := if x < y then y else x
theorem MXD.up (hw : WV n tr A B Ho BG DN) {P P' : Nat → Prop} {Z : F1} {a e b : Nat} {x : Int} (h : MXD n tr A B Ho BG DN P Z a x) (he : e ≤ 30) (hb : b < 32) (hh : BH n A B e a = (b : Int)) (hZ : -1 ≤ Z b ∧ Z b ≤ 120) (hP : ∀ e' b' : Nat, e' ≤ 30 → b' < 32 → BH n A B e' a = (b' : Int) → P' e' → P e' ∨ e' = e) : MXD n tr A B Ho BG DN P' Z a (up1 x (AL tr Ho BG DN e a (Z b))) := by
  obtain ⟨h1, h2, h3, h4⟩ := h
  have r := AL_in (v := a) hw (BH_v hh) hZ
  have le : x ≤ up1 x (AL tr Ho BG DN e a (Z b)) ∧ AL tr Ho BG DN e a (Z b) ≤ up1 x (AL tr Ho BG DN e a (Z b)) := by
    unfold up1
    split <;> omega
  refine ⟨by omega, by unfold up1; split <;> omega, fun e' b' he' hb' hh' hp => ?_, ?_⟩
  · rcases hP e' b' he' hb' hh' hp with q | rfl
    · exact Int.le_trans (h3 e' b' he' hb' hh' q) le.1
    · have : b' = b := by omega
      subst this
      exact le.2
  · unfold up1
    split
    · exact Or.inr ⟨e, b, he, hb, hh, rfl⟩
    · exact h4
theorem MXD.le {Z Z' : F1} {a : Nat} {x x' : Int} (h : MXD n tr A B Ho BG DN (fun _ => True) Z a x) (h2 : MXD n tr A B Ho BG DN (fun _ => True) Z' a x') (hz : ∀ b : Nat, b < 32 → Z b = Z' b) : x ≤ x' := by
  rcases h.2.2.2 with e | ⟨e, b, he, hb, hh, q⟩
  · rw [e]; exact h2.1
  · rw [q, hz b hb]
    exact h2.2.2.1 e b he hb hh trivial
theorem MXD.eq {Z Z' : F1} {a : Nat} {x x' : Int} (h : MXD n tr A B Ho BG DN (fun _ => True) Z a x) (h2 : MXD n tr A B Ho BG DN (fun _ => True) Z' a x') (hz : ∀ b : Nat, b < 32 → Z b = Z' b) : x = x' := Int.le_antisymm (h.le h2 hz) (h2.le h fun b hb => (hz b hb).symm)
theorem MXD.congr {P : Nat → Prop} {Z Z' : F1} {a : Nat} {x : Int} (h : MXD n tr A B Ho BG DN P Z a x) (hz : ∀ b : Nat, b < 32 → Z' b = Z b) : MXD n tr A B Ho BG DN P Z' a x := by
  refine ⟨h.1, h.2.1, fun e b he hb hh hp => by rw [hz b hb]; exact h.2.2.1 e b he hb hh hp, ?_⟩
  rcases h.2.2.2 with q | ⟨e, b, he, hb, hh, q⟩
  · exact Or.inl q
  · exact Or.inr ⟨e, b, he, hb, hh, by rw [hz b hb]; exact q⟩
def HL (S : F1) : Prop := ∀ v : Nat, v < 32 → -1 ≤ S v ∧ S v ≤ 120
/-- the reference: one stand -/
theorem leavesBy10 (hw : WV n tr A B Ho BG DN) (hx : XY BG DN X Y) {e v : Nat} {h : Int} (he : e = 30 ∨ (e : Int) < n) (hv : v < 32) (hh : 0 ≤ h ∧ h ≤ 120) : mX10_leavesBy (iI (v : Int)) (iI (e : Int)) (iI h) (iI tr) (iF X) (iF Y) (iF Ho) = some (iI (LW tr Ho BG DN e v h)) := by
  have h30 := hw.2.1
  by_cases h1 : e = 30
  · subst h1
    rw [mX10_leavesBy, if_pos (show iI ((30 : Nat) : Int) = iI 30 from rfl), iI_sub, LW_30]
  · have h2 := he.resolve_left h1
    have x1 : ¬ iI (e : Int) = iI 30 := fun y => by have := (iI_eq (by omega) (by omega) (by omega) (by omega)).mp y; omega
    obtain ⟨a0, a1, b0, b1, ne, h0, h3⟩ := hw.2.2.2.2.1 e h2
    obtain ⟨g0, g1, d0, d1⟩ := hw.2.2.2.2.2 e (by omega)
    have g := gdn (z := (e : Int)) (n := 30) (by omega) (by omega) (by omega)
    have ee : (e : Int).toNat = e := by omega
    have rr : ∀ F : F1, iF F (iI (e : Int)).toNatClampNeg = iI (F e) := fun F => by rw [rd (by omega) (by omega), ee]
    obtain ⟨ex, ey⟩ := hx e (by omega)
    rw [mX10_leavesBy, if_neg x1]
    by_cases c : 16 ≤ v
    · rw [if_pos ((iI_le (by omega) (by omega) (by omega) (by omega)).mpr (by omega)), if_neg g, if_neg g, rr, rr, ey, iI_sub, LW_new h1 c]
      by_cases d : DN e ≤ h - Ho e
      · rw [if_pos ((iI_le (by omega) (by omega) (by omega) (by omega)).mpr d), if_pos d, if_neg g]
      · rw [if_neg (fun y => d ((iI_le (by omega) (by omega) (by omega) (by omega)).mp y)), if_neg d]
    · rw [if_neg (fun y => by have := (iI_le (by omega) (by omega) (by omega) (by omega)).mp y; omega), if_neg g, rr, rr, ex, LW_old h1 c]
      by_cases d : BG e ≤ h
      · rw [if_pos ((iI_le (by omega) (by omega) (by omega) (by omega)).mpr d), if_pos d, if_neg g, if_neg g, iI_sub]
      · rw [if_neg (fun y => d ((iI_le (by omega) (by omega) (by omega) (by omega)).mp y)), if_neg d, if_neg g, iI_sub]
theorem upI_self (F : F1) (k : Nat) : upI F k (F k) = F := funext fun j => by
  by_cases h : j = k
  · subst h; exact upI_s _ _ _
  · exact upI_n h
/-- two values that say the same: what is behind -1 is -1 -/
def SAY (x al : Int) : Prop := -1 ≤ al ∧ al ≤ 120 ∧ (x = al ∨ (-1000 ≤ x ∧ x ≤ -1 ∧ al = -1))
theorem late_put {j s e : Nat} {x al y : Int} {Q : F1} (hj : j < 33) (hs : s < 32) (hq : Q (32 * j + s) = y) (hy : -1 ≤ y ∧ y ≤ 120) (hx : SAY x al) (kk : Int32 → (Nat → Int32) → Option (Nat → Int32)) : mX10_goLate_J137 kk (iI x) (iI (j : Int)) (iI (s : Int)) (iI (e : Int)) (iF Q) = kk (iI ((e + 1 : Nat) : Int)) (iF (upI Q (32 * j + s) (up1 y al))) := by
  have g := gdn (z := 32 * (j : Int) + s) (n := 1056) (by omega) (by omega) (by omega)
  have ei : (32 * (j : Int) + s).toNat = 32 * j + s := by omega
  have b1 : iF Q (iI (32 * (j : Int) + s)).toNatClampNeg = iI y := by rw [rd (by omega) (by omega), ei, hq]
  obtain ⟨s1, s2, s3⟩ := hx
  rw [mX10_goLate_J137, iI_mul, iI_add, iI_add, if_neg g, b1]
  by_cases c : x ≤ y
  · rw [if_pos ((iI_le (by omega) (by omega) (by omega) (by omega)).mpr c), if_neg g, if_neg g, wr (by omega) (by omega), ei, up1, if_neg (by omega)]
    rfl
  · rw [if_neg (fun y => c ((iI_le (by omega) (by omega) (by omega) (by omega)).mp y)), if_neg g, wr (by omega) (by omega), ei, up1, if_pos (by omega), show x = al by omega]
    rfl
theorem stand10_go (hw : WV n tr A B Ho BG DN) (hx : XY BG DN X Y) {j s : Nat} (hj : j < 32) (hs : s < 32) {Z : F1} (hZ : HL Z) (kk : (Nat → Int32) → Option (Nat → Int32)) : ∀ (d e m : Nat) (Q : F1), e + d = 31 → d < m → RW j Q Z → MXD n tr A B Ho BG DN (fun e' => e' < e) Z s (Q (32 * (j + 1) + s)) → ∃ Q' : F1, mX10_goLate_L73 (iI n) (iI tr) (iF X) (iF Y) (iF A) (iF B) (iF Ho) (iI ((j + 1 : Nat) : Int)) (iI (s : Int)) kk m (iI (e : Int)) (iF Q) = kk (iF Q') ∧ (∀ i : Nat, i ≠ 32 * (j + 1) + s → Q' i = Q i) ∧ MXD n tr A B Ho BG DN (fun _ => True) Z s (Q' (32 * (j + 1) + s)) := by
  intro d
  induction d with
  | zero =>
    intro e m Q hi hm hQ h
    obtain ⟨m, rfl⟩ : ∃ a, m = a + 1 := ⟨m - 1, by omega⟩
    refine ⟨Q, ?_, fun _ _ => rfl, h.weak fun e' b he hb hh _ => by omega⟩
    rw [mX10_goLate_L73, if_pos ((iI_lt (by omega) (by omega) (by omega) (by omega)).mpr (by omega))]
  | succ d ih =>
    intro e m Q hi hm hQ h
    obtain ⟨m, rfl⟩ : ∃ a, m = a + 1 := ⟨m - 1, by omega⟩
    have ry : -1 ≤ Q (32 * (j + 1) + s) ∧ Q (32 * (j + 1) + s) ≤ 120 := ⟨h.1, h.2.1⟩
    have cont : ∀ (al : Int), MXD n tr A B Ho BG DN (fun e' => e' < e + 1) Z s (up1 (Q (32 * (j + 1) + s)) al) → ∃ Q' : F1, mX10_goLate_L73 (iI n) (iI tr) (iF X) (iF Y) (iF A) (iF B) (iF Ho) (iI ((j + 1 : Nat) : Int)) (iI (s : Int)) kk m (iI ((e + 1 : Nat) : Int)) (iF (upI Q (32 * (j + 1) + s) (up1 (Q (32 * (j + 1) + s)) al))) = kk (iF Q') ∧ (∀ i : Nat, i ≠ 32 * (j + 1) + s → Q' i = Q i) ∧ MXD n tr A B Ho BG DN (fun _ => True) Z s (Q' (32 * (j + 1) + s)) := fun al h2 => by
      obtain ⟨Q', x1, x2, x3⟩ := ih (e + 1) m (upI Q (32 * (j + 1) + s) (up1 (Q (32 * (j + 1) + s)) al)) (by omega) (by omega) (fun v hv => by rw [upI_n (by omega)]; exact hQ v hv) (by rw [upI_s]; exact h2)
      exact ⟨Q', x1, fun i hi => by rw [x2 i hi, upI_n hi], x3⟩
    rw [mX10_goLate_L73, if_neg (fun y => by have := (iI_lt (by omega) (by omega) (by omega) (by omega)).mp y; omega), behind10 hw (by omega) hs]
    simp only [Option.bind_some]
    rcases BH_or hw e hs with q | ⟨b, hb, q⟩
    · rw [q, if_pos rfl, mX10_goLate_J116, if_neg (by decide), late_put (al := -1) (by omega) hs rfl ry ⟨by omega, by omega, Or.inl rfl⟩]
      refine cont (-1) ?_
      rw [up1, if_neg (by omega)]
      refine h.weak fun e' b' he' hb' hh' hp => ?_
      by_cases c : e' = e
      · subst c
        rw [q] at hh'
        omega
      · omega
    · have g := gdn (z := 32 * ((j + 1 : Nat) : Int) - 32 + b) (n := 1056) (by omega) (by omega) (by omega)
      have ei : (32 * ((j + 1 : Nat) : Int) - 32 + b).toNat = 32 * j + b := by omega
      have b1 : iF Q (iI (32 * ((j + 1 : Nat) : Int) - 32 + b)).toNatClampNeg = iI (Z b) := by rw [rd (by omega) (by omega), ei, hQ b hb]
      have rz := hZ b hb
      have hv := BH_v q
      have r := AL_in (v := s) hw hv rz
      have fin := cont _ (h.up hw (e := e) (P' := fun e' => e' < e + 1) (by omega) hb q rz fun e' b' he' hb' hh' hp => by
        by_cases c : e' = e
        · exact Or.inr c
        · exact Or.inl (by omega))
      rw [q, if_neg (fun y => by have := (iI_eq (by omega) (by omega) (by omega) (by omega)).mp y; omega), iI_mul, iI_sub, iI_add, if_neg g, b1, mX10_goLate_J116, iI_0]
      by_cases c : 0 ≤ Z b
      · have hl : -1000 ≤ LW tr Ho BG DN e s (Z b) := by
          by_cases h1 : e = 30
          · subst h1; rw [LW_30]; have := hw.2.2.2.1; omega
          · have h3 := hw.2.2.2.2.1 e (hv.resolve_left h1)
            have h4 := hw.2.2.2.2.2 e (by omega)
            by_cases h2 : 16 ≤ s
            · rw [LW_new h1 h2]; split <;> omega
            · rw [LW_old h1 h2]; split <;> omega
        rw [if_pos ((iI_le (by omega) (by omega) (by omega) (by omega)).mpr c), leavesBy10 hw hx hv hs (by omega)]
        simp only [Option.bind_some]
        rw [late_put (al := AL tr Ho BG DN e s (Z b)) (by omega) hs rfl ry ⟨r.1, r.2, ?_⟩]
        · exact fin
        · unfold AL
          split <;> omega
      · rw [if_neg (fun y => c ((iI_le (by omega) (by omega) (by omega) (by omega)).mp y)), late_put (al := AL tr Ho BG DN e s (Z b)) (by omega) hs rfl ry ⟨r.1, r.2, Or.inl (AL_neg (by omega)).symm⟩]
        exact fin
theorem row10_go (hw : WV n tr A B Ho BG DN) (hx : XY BG DN X Y) {j : Nat} (hj : j < 32) {Z : F1} (hZ : HL Z) (kk : (Nat → Int32) → Option (Nat → Int32)) : ∀ (d s m : Nat) (Q : F1), s + d = 32 → d < m → RW j Q Z → (∀ a : Nat, a < s → MXD n tr A B Ho BG DN (fun _ => True) Z a (Q (32 * (j + 1) + a))) → ∃ Q' : F1, mX10_goLate_L49 (iI n) (iI tr) (iF X) (iF Y) (iF A) (iF B) (iF Ho) (iI ((j + 1 : Nat) : Int)) kk m (iI (s : Int)) (iF Q) = kk (iF Q') ∧ OUTR (j + 1) Q Q' ∧ ∀ a : Nat, a < 32 → MXD n tr A B Ho BG DN (fun _ => True) Z a (Q' (32 * (j + 1) + a)) := by
  have hkF := kF_ge
  intro d
  induction d with
  | zero =>
    intro s m Q hi hm hQ h
    obtain ⟨m, rfl⟩ : ∃ a, m = a + 1 := ⟨m - 1, by omega⟩
    refine ⟨Q, ?_, OUTR.rf _ _, fun a ha => h a (by omega)⟩
    rw [mX10_goLate_L49, if_pos ((iI_le (by omega) (by omega) (by omega) (by omega)).mpr (by omega))]
  | succ d ih =>
    intro s m Q hi hm hQ h
    obtain ⟨m, rfl⟩ : ∃ a, m = a + 1 := ⟨m - 1, by omega⟩
    have g := gdn (z := 32 * ((j + 1 : Nat) : Int) + s) (n := 1056) (by omega) (by omega) (by omega)
    have ei : (32 * ((j + 1 : Nat) : Int) + s).toNat = 32 * (j + 1) + s := by omega
    obtain ⟨Q2, x1, x2, x3⟩ := stand10_go hw hx hj (s := s) (by omega) hZ (fun (t_late_24 : Nat → Int32) => (mX10_goLate_L49 (iI n) (iI tr) (iF X) (iF Y) (iF A) (iF B) (iF Ho) (iI ((j + 1 : Nat) : Int)) kk m ((iI (s : Int)) + (iI 1)) t_late_24)) 31 0 kF (upI Q (32 * (j + 1) + s) (-1)) (by omega) (by omega) (fun v hv => by rw [upI_n (by omega)]; exact hQ v hv) (by rw [upI_s]; exact MXD.start Z s fun e _ h => by omega)
    have out : ∀ i : Nat, i ≠ 32 * (j + 1) + s → Q2 i = Q i := fun i hi => by rw [x2 i hi, upI_n hi]
    obtain ⟨Q', y1, y2, y3⟩ := ih (s + 1) m Q2 (by omega) (by omega) (fun v hv => by rw [out _ (by omega)]; exact hQ v hv) (fun a ha => by
      by_cases c : a = s
      · subst c; exact x3
      · rw [out _ (by omega)]; exact h a (by omega))
    refine ⟨Q', ?_, fun i hi => by rw [y2 i hi, out i (by omega)], y3⟩
    rw [mX10_goLate_L49, if_neg (fun y => by have := (iI_le (by omega) (by omega) (by omega) (by omega)).mp y; omega), iI_mul, iI_add, if_neg g, wr (by omega) (by omega), ei]
    refine x1.trans ?_
    show mX10_goLate_L49 _ _ _ _ _ _ _ _ kk m (iI (s : Int) + iI 1) (iF Q2) = _
    rw [iI_add]
    exact y1
theorem rows10_go (hw : WV n tr A B Ho BG DN) (hx : XY BG DN X Y) {f : Nat} (hf : f ≤ 32) : ∀ (d j m : Nat) (Q : F1), j + d = f → d < m → HL (row32 0 Q) → (∀ i : Nat, i < j → ∀ a : Nat, a < 32 → MXD n tr A B Ho BG DN (fun _ => True) (row32 i Q) a (row32 (i + 1) Q a)) → ∃ Q' : F1, mX10_goLate_L40 (iI (f : Int)) (iI n) (iI tr) (iF X) (iF Y) (iF A) (iF B) (iF Ho) m (iI ((j + 1 : Nat) : Int)) (iF Q) = some (iF Q') ∧ (∀ v : Nat, v < 32 → row32 0 Q' v = row32 0 Q v) ∧ ∀ i : Nat, i < f → ∀ a : Nat, a < 32 → MXD n tr A B Ho BG DN (fun _ => True) (row32 i Q') a (row32 (i + 1) Q' a) := by
  have hkF := kF_ge
  intro d
  induction d with
  | zero =>
    intro j m Q hi hm h0 h
    obtain ⟨m, rfl⟩ : ∃ a, m = a + 1 := ⟨m - 1, by omega⟩
    have e : j = f := by omega
    subst e
    refine ⟨Q, ?_, fun _ _ => rfl, h⟩
    rw [mX10_goLate_L40, if_pos ((iI_lt (by omega) (by omega) (by omega) (by omega)).mpr (by omega))]
  | succ d ih =>
    intro j m Q hi hm h0 h
    obtain ⟨m, rfl⟩ : ∃ a, m = a + 1 := ⟨m - 1, by omega⟩
    have hZ : HL (row32 j Q) := fun v hv => by
      by_cases c : j = 0
      · subst c; exact h0 v hv
      · have := h (j - 1) (by omega) v hv
        rw [show j - 1 + 1 = j by omega] at this
        exact ⟨this.1, this.2.1⟩
    obtain ⟨Q2, x1, x2, x3⟩ := row10_go hw hx (j := j) (by omega) hZ (fun (t_late_25 : Nat → Int32) => (mX10_goLate_L40 (iI (f : Int)) (iI n) (iI tr) (iF X) (iF Y) (iF A) (iF B) (iF Ho) m ((iI ((j + 1 : Nat) : Int)) + (iI 1)) t_late_25)) 32 0 kF Q (by omega) (by omega) (fun _ _ => rfl) (fun a ha => by omega)
    have e1 : ∀ i : Nat, i ≠ j + 1 → ∀ v : Nat, v < 32 → row32 i Q2 v = row32 i Q v := fun i hi v hv => x2 (32 * i + v) (by omega)
    obtain ⟨Q', y1, y2, y3⟩ := ih (j + 1) m Q2 (by omega) (by omega) (fun v hv => by rw [e1 0 (by omega) v hv]; exact h0 v hv) (fun i hi a ha => by
      by_cases c : i = j
      · subst c; exact (x3 a ha).congr fun b hb => e1 i (by omega) b hb
      · rw [e1 (i + 1) (by omega) a ha]
        exact (h i (by omega) a ha).congr fun b hb => e1 i (by omega) b hb)
    refine ⟨Q', ?_, fun v hv => (y2 v hv).trans (e1 0 (by omega) v hv), y3⟩
    rw [mX10_goLate_L40, if_neg (fun y => by have := (iI_lt (by omega) (by omega) (by omega) (by omega)).mp y; omega)]
    refine x1.trans ?_
    show mX10_goLate_L40 _ _ _ _ _ _ _ _ m (iI ((j + 1 : Nat) : Int) + iI 1) (iF Q2) = _
    rw [iI_add]
    exact y1
theorem goal_go (kk : (Nat → Int32) → Option (Nat → Int32)) {to : Nat} {c : Int} (ht : to < 16) : ∀ (d i m : Nat) (Q : F1), i + d = 32 → d < m → (∀ v : Nat, v < i → Q v = if v % 16 = to then c else -1) → ∃ Q' : F1, mX10_goLate_L3 (iI (to : Int)) (iI c) kk m (iI (i : Int)) (iF Q) = kk (iF Q') ∧ ∀ v : Nat, v < 32 → Q' v = if v % 16 = to then c else -1 := by
  intro d
  induction d with
  | zero =>
    intro i m Q hi hm h
    obtain ⟨m, rfl⟩ : ∃ a, m = a + 1 := ⟨m - 1, by omega⟩
    refine ⟨Q, ?_, fun v hv => h v (by omega)⟩
    rw [mX10_goLate_L3, if_pos ((iI_le (by omega) (by omega) (by omega) (by omega)).mpr (by omega))]
  | succ d ih =>
    intro i m Q hi hm h
    obtain ⟨m, rfl⟩ : ∃ a, m = a + 1 := ⟨m - 1, by omega⟩
    have ei : (i : Int).toNat = i := by omega
    have g := gdn (z := (i : Int)) (n := 1056) (by omega) (by omega) (by omega)
    have eq : (i : Int) - (i : Int) / 16 * 16 = ((i % 16 : Nat) : Int) := by omega
    obtain ⟨Q', x1, x2⟩ := ih (i + 1) m (upI Q i (if i % 16 = to then c else -1)) (by omega) (by omega) (fun v hv => by
      by_cases q : v = i
      · subst q; exact upI_s _ _ _
      · rw [upI_n q]; exact h v (by omega))
    refine ⟨Q', ?_, x2⟩
    rw [mX10_goLate_L3, if_neg (fun k => by have := (iI_le (by omega) (by omega) (by omega) (by omega)).mp k; omega), iI_div (by omega) (by omega) (by omega) (by omega), iI_mul, iI_sub, eq, iI_add]
    by_cases q : i % 16 = to
    · rw [if_pos (by rw [q]), if_neg g, wr (by omega) (by omega), ei]
      rw [if_pos q] at x1
      exact x1
    · rw [if_neg (fun y => by have := (iI_eq (by omega) (by omega) (by omega) (by omega)).mp y; omega), if_neg g, wr (by omega) (by omega), ei]
      rw [if_neg q] at x1
      exact x1
theorem goLate_iI (hw : WV n tr A B Ho BG DN) (hx : XY BG DN X Y) {to f : Nat} {c : Int} (ht : to < 16) (hf : f ≤ 32) (hc : 0 ≤ c ∧ c ≤ 120) (Q : F1) : ∃ Q' : F1, mX10_goLate (iI (to : Int)) (iI c) (iI (f : Int)) (iI n) (iI tr) (iF X) (iF Y) (iF A) (iF B) (iF Ho) (iF Q) = some (iF Q') ∧ (∀ v : Nat, v < 32 → row32 0 Q' v = if v % 16 = to then c else -1) ∧ ∀ i : Nat, i < f → ∀ a : Nat, a < 32 → MXD n tr A B Ho BG DN (fun _ => True) (row32 i Q') a (row32 (i + 1) Q' a) := by
  have hkF := kF_ge
  obtain ⟨Q1, x1, x2⟩ := goal_go (fun (t_late_5 : Nat → Int32) => mX10_goLate_L40 (iI (f : Int)) (iI n) (iI tr) (iF X) (iF Y) (iF A) (iF B) (iF Ho) kF (iI 1) t_late_5) (to := to) (c := c) ht 32 0 kF Q (by omega) (by omega) (fun v hv => by omega)
  have e0 : ∀ v : Nat, v < 32 → row32 0 Q1 v = if v % 16 = to then c else -1 := fun v hv => by
    show Q1 (32 * 0 + v) = _
    rw [show 32 * 0 + v = v by omega]
    exact x2 v hv
  obtain ⟨Q', y1, y2, y3⟩ := rows10_go hw hx hf f 0 kF Q1 (by omega) (by omega) (fun v hv => by rw [e0 v hv]; split <;> omega) (fun i hi => by omega)
  refine ⟨Q', ?_, fun v hv => (y2 v hv).trans (e0 v hv), y3⟩
  rw [mX10_goLate]
  exact x1.trans y1
end WL
