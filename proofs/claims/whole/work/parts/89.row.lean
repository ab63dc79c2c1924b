/-! WAY: the row, and both together -/
section WB
variable {n tr : Int} {A B Ho BG DN X Y : F1}
theorem least_ex {P : Nat → Prop} : ∀ k : Nat, P k → ∃ e : Nat, e ≤ k ∧ P e ∧ ∀ e' : Nat, e' < e → ¬ P e' := by
  intro k
  induction k using Nat.strongRecOn with
  | ind k ih =>
    intro h
    by_cases c : ∃ e' : Nat, e' < k ∧ P e'
    · obtain ⟨e', h1, h2⟩ := c
      obtain ⟨e, y1, y2, y3⟩ := ih e' h1 h2
      exact ⟨e, by omega, y2, y3⟩
    · exact ⟨k, Nat.le_refl k, h, fun e' he hp => c ⟨e', he, hp⟩⟩
/-- from the hour t at v one can go on over e -/
def OKS (n tr : Int) (A B Ho BG DN Z : F1) (v : Nat) (t : Int) (e : Nat) : Prop := ∃ b : Nat, b < 32 ∧ BH n A B e v = (b : Int) ∧ AW tr Ho BG DN e v t ≤ Z b
theorem ok_ex {Z : F1} (hZ : HL Z) {v : Nat} {t x : Int} (ht : 0 ≤ t) (h : MXD n tr A B Ho BG DN (fun _ => True) Z v x) (hx : t ≤ x) : ∃ e : Nat, e ≤ 30 ∧ OKS n tr A B Ho BG DN Z v t e := by
  rcases h.2.2.2 with q | ⟨e, b, he, hb, hh, q⟩
  · omega
  · refine ⟨e, he, b, hb, hh, ?_⟩
    have rz := hZ b hb
    by_cases c : 0 ≤ Z b
    · exact (dual ht c rz.2).mpr (by omega)
    · rw [AL_neg (by omega)] at q
      omega
theorem over32 : ∀ v : Nat, v < 32 → ((iI ((cl v : Nat) : Int) >>> (((iI 1) : Int32) &&& 31) : Int32) = iI ((v % 16 : Nat) : Int)) ∧ (iI ((cl v : Nat) : Int) &&& iI 1) = iI ((v / 16 : Nat) : Int) := by
  unfold cl iI
  decide +kernel
theorem over_iI (hw : WV n tr A B Ho BG DN) {l v : Nat} (hl : (l : Int) < n) (hv : v < 32) : (BH n A B l v = -1 ∧ mX7_standOver (iI (l : Int)) (iI ((cl v : Nat) : Int)) (iF A) (iF B) = iI (-1)) ∨ ∃ b : Nat, b < 32 ∧ BH n A B l v = (b : Int) ∧ mX7_standOver (iI (l : Int)) (iI ((cl v : Nat) : Int)) (iF A) (iF B) = iI ((cl b : Nat) : Int) := by
  have h30 := hw.2.1
  obtain ⟨a0, a1, b0, b1, ne, h0, h1⟩ := hw.2.2.2.2.1 l hl
  have ll : (l : Int).toNat = l := by omega
  have b : ∀ F : F1, mX9_at 30 (iI (l : Int)) (iF F) = iI (F l) := fun F => by rw [at_iI (by omega) (by omega) (by omega), at_in (by omega) (by omega), ll]
  obtain ⟨o1, o2⟩ := over32 v hv
  have nn : ∀ z : Int, 0 ≤ z → z ≤ 15 → ¬ iI z = iI (-1) := fun z z0 z1 y => by have := (iI_eq (by omega) (by omega) (by omega) (by omega)).mp y; omega
  by_cases c : A l = ((v % 16 : Nat) : Int)
  · have fe : mX1_farEnd (iI (l : Int)) (iI ((v % 16 : Nat) : Int)) (iF A) (iF B) = iI (B l) := by rw [mX1_farEnd, b, b, if_pos (by rw [c])]
    rw [mX7_standOver, o1, o2, fe, if_neg (nn _ b0 b1), iI_mul, iI_add, BH, if_neg (by omega), if_pos hl, if_pos c]
    refine Or.inr ⟨v - v % 16 + (B l).toNat, by omega, by omega, ?_⟩
    rw [show ((cl (v - v % 16 + (B l).toNat) : Nat) : Int) = 2 * B l + ((v / 16 : Nat) : Int) by unfold cl; omega]
  · have c2 : ¬ iI (A l) = iI ((v % 16 : Nat) : Int) := fun y => c ((iI_eq (by omega) (by omega) (by omega) (by omega)).mp y)
    by_cases d : B l = ((v % 16 : Nat) : Int)
    · have fe : mX1_farEnd (iI (l : Int)) (iI ((v % 16 : Nat) : Int)) (iF A) (iF B) = iI (A l) := by rw [mX1_farEnd, b, b, if_neg c2, if_pos (by rw [d])]
      rw [mX7_standOver, o1, o2, fe, if_neg (nn _ a0 a1), iI_mul, iI_add, BH, if_neg (by omega), if_pos hl, if_neg c, if_pos d]
      refine Or.inr ⟨v - v % 16 + (A l).toNat, by omega, by omega, ?_⟩
      rw [show ((cl (v - v % 16 + (A l).toNat) : Nat) : Int) = 2 * A l + ((v / 16 : Nat) : Int) by unfold cl; omega]
    · have d2 : ¬ iI (B l) = iI ((v % 16 : Nat) : Int) := fun y => d ((iI_eq (by omega) (by omega) (by omega) (by omega)).mp y)
      have fe : mX1_farEnd (iI (l : Int)) (iI ((v % 16 : Nat) : Int)) (iF A) (iF B) = iI (-1) := by rw [mX1_farEnd, b, b, if_neg c2, if_neg d2]
      rw [mX7_standOver, o1, o2, fe, if_pos rfl, BH, if_neg (by omega), if_pos hl, if_neg c, if_neg d]
      exact Or.inl ⟨rfl, rfl⟩
/-- the first step of the class -/
theorem first2_go (hw : WV n tr A B Ho BG DN) {r v e1 : Nat} {t : Int} {L Z : F1} (hr : r < 32) (hv : v < 32) (ht : 0 ≤ t ∧ t ≤ 120) (hZ : HL Z) (hL : RC r L Z) (he : e1 ≤ 30) (hok : OKS n tr A B Ho BG DN Z v t e1) (hno : ∀ e : Nat, e < e1 → ¬ OKS n tr A B Ho BG DN Z v t e) : ∀ (d l m : Nat), l + d = 30 → d < m → l ≤ e1 → (l : Int) ≤ n → mX7_firstStep_L3 (iI ((cl v : Nat) : Int)) (iI t) (iI (r : Int)) (iF L) (iI n) (iF Ho) (iF A) (iF B) (iF BG) (iF DN) m (iI (l : Int)) = some (iI (e1 : Int)) := by
  have h30 := hw.2.1
  have hv1 : e1 = 30 ∨ (e1 : Int) < n := by obtain ⟨b, hb, hh, -⟩ := hok; exact BH_v hh
  intro d
  induction d with
  | zero =>
    intro l m hi hm h1 h2
    obtain ⟨m, rfl⟩ : ∃ a, m = a + 1 := ⟨m - 1, by omega⟩
    rw [mX7_firstStep_L3, if_pos ((iI_le (by omega) (by omega) (by omega) (by omega)).mpr (by omega)), show e1 = 30 by omega]
    rfl
  | succ d ih =>
    intro l m hi hm h1 h2
    obtain ⟨m, rfl⟩ : ∃ a, m = a + 1 := ⟨m - 1, by omega⟩
    by_cases c : (l : Int) < n
    · have r0 := AW_ge (BG := BG) (DN := DN) (v := v) hw.2.2.1 hw.ho (Or.inr c) (t := t) (by omega)
      have r1 := AR_hr (v := v) hw (Or.inr c) (t := t) (Or.inl ht)
      have q0 : AR tr Ho BG DN l v t ≤ 120 → AR tr Ho BG DN l v t = AW tr Ho BG DN l v t := fun y => by
        unfold AR at y ⊢
        split at y
        · rw [if_pos (by assumption)]
        · omega
      have q1 : AW tr Ho BG DN l v t ≤ 120 → AR tr Ho BG DN l v t = AW tr Ho BG DN l v t := fun y => by rw [AR, if_pos y]
      rw [mX7_firstStep_L3, if_neg (fun k => by have := (iI_le (by omega) (by omega) (by omega) (by omega)).mp k; omega), isNew32 v hv, arrival_iI hw c hv (by omega)]
      simp only [Option.bind_some]
      have next : ¬ OKS n tr A B Ho BG DN Z v t l → mX7_firstStep_L3 (iI ((cl v : Nat) : Int)) (iI t) (iI (r : Int)) (iF L) (iI n) (iF Ho) (iF A) (iF B) (iF BG) (iF DN) m (iI (l : Int) + iI 1) = some (iI (e1 : Int)) := fun y => by
        rw [iI_add]
        have : l ≠ e1 := fun z => y (by rw [z]; exact hok)
        exact ih (l + 1) m (by omega) (by omega) (by omega) (by omega)
      rcases over_iI hw c hv with ⟨y1, y2⟩ | ⟨b, hb, y1, y2⟩
      · rw [y2, mX7_latestAt, if_pos rfl, if_pos ((iI_lt (by omega) (by omega) (by omega) (by omega)).mpr (by omega))]
        refine next fun ⟨b, hb, hh, _⟩ => ?_
        rw [y1] at hh
        omega
      · have rz := hZ b hb
        rw [y2, latest_iI hr hb hL]
        by_cases k : Z b < AR tr Ho BG DN l v t
        · rw [if_pos ((iI_lt (by omega) (by omega) (by omega) (by omega)).mpr k)]
          refine next fun ⟨b', hb', hh, hz⟩ => ?_
          have : b' = b := by omega
          subst this
          have := q1 (by omega)
          omega
        · rw [if_neg (fun y => k ((iI_lt (by omega) (by omega) (by omega) (by omega)).mp y))]
          have ok : OKS n tr A B Ho BG DN Z v t l := ⟨b, hb, y1, by have := q0 (by omega); omega⟩
          have : l = e1 := by
            by_cases z : l < e1
            · exact absurd ok (hno l z)
            · omega
          rw [this]
    · rw [mX7_firstStep_L3, if_pos ((iI_le (by omega) (by omega) (by omega) (by omega)).mpr (by omega)), show e1 = 30 by omega]
      rfl
/-- a step of the reference -/
theorem first10_go (hw : WV n tr A B Ho BG DN) (hx : XY BG DN X Y) {r v e1 f i b1 : Nat} {t : Int} {Q Z RR : F1} (hf : f ≤ 31) (hri : r + i + 1 = f) (hv : v < 32) (ht : 0 ≤ t ∧ t ≤ 120) (hZ : HL Z) (hQ : RW r Q Z) (he : e1 ≤ 30) (hb1 : b1 < 32) (hbh : BH n A B e1 v = (b1 : Int)) (hok : AW tr Ho BG DN e1 v t ≤ Z b1) (hno : ∀ e : Nat, e < e1 → ¬ OKS n tr A B Ho BG DN Z v t e) (th ts rm v6 : Int32) (ea wi : Nat → Int32) (kk : Int32 → Int32 → (Nat → Int32) → Option (Int32 × Int32 × Int32 × Int32 × (Nat → Int32) × (Nat → Int32) × (Nat → Int32) × (Nat → Int32) × (Nat → Int32) × (Nat → Int32))) : ∀ (d e m : Nat), e + d = e1 → d + 1 < m → mX10_way_L178 th ts (iI n) (iI tr) rm (iF X) (iF Y) ea (iF A) (iF B) (iF Ho) (iF Q) wi v6 (iI (f : Int)) (iI (i : Int)) kk m (iI (v : Int)) (iI t) (iI (e : Int)) (iI 0) (iF RR) = kk (iI (b1 : Int)) (iI (AW tr Ho BG DN e1 v t)) (iF (upI RR i (e1 : Int))) := by
  have n0 : iI 0 = 0 := rfl
  have n1 : ¬ iI 1 = 0 := by decide
  have idx : iI 32 * (iI (f : Int) - iI (i : Int) - iI 1) = iI (32 * (r : Int)) := by rw [iI_sub, iI_sub, iI_mul, show (f : Int) - i - 1 = r by omega]
  intro d
  induction d with
  | zero =>
    intro e m hi hm
    obtain ⟨m, rfl⟩ : ∃ a, m = a + 1 + 1 := ⟨m - 2, by omega⟩
    have ee : e = e1 := by omega
    subst ee
    have g := gdn (z := 32 * (r : Int) + b1) (n := 1056) (by omega) (by omega) (by omega)
    have ei : (32 * (r : Int) + b1).toNat = 32 * r + b1 := by omega
    have bq : iF Q (iI (32 * (r : Int) + b1)).toNatClampNeg = iI (Z b1) := by rw [rd (by omega) (by omega), ei, hQ b1 hb1]
    have g2 := gdn (z := (i : Int)) (n := 32) (by omega) (by omega) (by omega)
    have ii : (i : Int).toNat = i := by omega
    have rz := hZ b1 hb1
    have r0 := AW_ge (BG := BG) (DN := DN) (v := v) hw.2.2.1 hw.ho (BH_v hbh) (t := t) (by omega)
    rw [mX10_way_L178, if_pos n0, behind10 hw he hv]
    simp only [Option.bind_some]
    rw [hbh, if_neg (fun y => by have := (iI_eq (by omega) (by omega) (by omega) (by omega)).mp y; omega), comesBy10 hw hx (BH_v hbh) hv (by omega)]
    simp only [Option.bind_some]
    rw [mX10_way_J214, if_neg (fun y => by have := (iI_eq (by omega) (by omega) (by omega) (by omega)).mp y; omega), idx, iI_add, if_neg g, bq, if_neg (fun y => by have := (iI_lt (by omega) (by omega) (by omega) (by omega)).mp y; omega), mX10_way_J250, if_neg n1, if_neg g2, wr (by omega) (by omega), ii]
    show mX10_way_L178 _ _ _ _ _ _ _ _ _ _ _ _ _ _ _ _ kk (m + 1) (iI (b1 : Int)) (iI (AW tr Ho BG DN e v t)) (iI (e : Int)) (iI 1) (iF (upI RR i (e : Int))) = _
    rw [mX10_way_L178, if_neg n1]
  | succ d ih =>
    intro e m hi hm
    obtain ⟨m, rfl⟩ : ∃ a, m = a + 1 := ⟨m - 1, by omega⟩
    have hn := hno e (by omega)
    have next := ih (e + 1) m (by omega) (by omega)
    rw [mX10_way_L178, if_pos n0, behind10 hw (by omega) hv]
    simp only [Option.bind_some]
    rcases BH_or hw e hv with q | ⟨b, hb, q⟩
    · rw [q, if_pos rfl, mX10_way_J214, if_pos rfl, mX10_way_J250, if_pos n0]
      show mX10_way_L178 _ _ _ _ _ _ _ _ _ _ _ _ _ _ _ _ kk m (iI (v : Int)) (iI t) (iI (e : Int) + iI 1) (iI 0) (iF RR) = _
      rw [iI_add]
      exact next
    · have g := gdn (z := 32 * (r : Int) + b) (n := 1056) (by omega) (by omega) (by omega)
      have ei : (32 * (r : Int) + b).toNat = 32 * r + b := by omega
      have bq : iF Q (iI (32 * (r : Int) + b)).toNatClampNeg = iI (Z b) := by rw [rd (by omega) (by omega), ei, hQ b hb]
      have rz := hZ b hb
      have hv2 := BH_v q
      have r0 := AW_ge (BG := BG) (DN := DN) (v := v) hw.2.2.1 hw.ho hv2 (t := t) (by omega)
      have r1 : AW tr Ho BG DN e v t ≤ 2000000 := by
        by_cases h1 : e = 30
        · subst h1; rw [AW_30]; have := hw.2.2.2.1; omega
        · have h3 := hw.2.2.2.2.1 e (hv2.resolve_left h1)
          have h4 := hw.2.2.2.2.2 e (by omega)
          by_cases h2 : 16 ≤ v
          · rw [AW_new h1 h2]; split <;> omega
          · rw [AW_old h1 h2]; split <;> omega
      have lt : Z b < AW tr Ho BG DN e v t := by
        by_cases y : AW tr Ho BG DN e v t ≤ Z b
        · exact absurd ⟨b, hb, q, y⟩ hn
        · omega
      rw [q, if_neg (fun y => by have := (iI_eq (by omega) (by omega) (by omega) (by omega)).mp y; omega), comesBy10 hw hx hv2 hv (by omega)]
      simp only [Option.bind_some]
      rw [mX10_way_J214, if_neg (fun y => by have := (iI_eq (by omega) (by omega) (by omega) (by omega)).mp y; omega), idx, iI_add, if_neg g, bq, if_pos ((iI_lt (by omega) (by omega) (by omega) (by omega)).mpr lt), mX10_way_J250, if_pos n0]
      show mX10_way_L178 _ _ _ _ _ _ _ _ _ _ _ _ _ _ _ _ kk m (iI (v : Int)) (iI t) (iI (e : Int) + iI 1) (iI 0) (iF RR) = _
      rw [iI_add]
      exact next
/-- the whole row -/
theorem row_go (hw : WV n tr A B Ho BG DN) (hx : XY BG DN X Y) {f : Nat} {c : Int} {L Q : F1} {Z : Nat → F1} (hf : f ≤ 31) (hc : 0 ≤ c ∧ c ≤ 120) (hL : ∀ i : Nat, i < f → RC i L (Z i)) (hQ : ∀ i : Nat, i < f → RW i Q (Z i)) (hz : ∀ i : Nat, i ≤ f → HL (Z i)) (hZ : ∀ i : Nat, i < f → ∀ a : Nat, a < 32 → MXD n tr A B Ho BG DN (fun _ => True) (Z i) a (Z (i + 1) a)) (ts rm : Int32) (ea wi : Nat → Int32) : ∀ (d i m2 m10 v : Nat) (t : Int) (RR : F1), i + d = f → d < m2 → d < m10 → v < 32 → 0 ≤ t → t ≤ Z d v → ∃ R' : F1, mX7_writeRow_L9 (iI (f : Int)) (iI tr) (iF L) (iI n) (iF Ho) (iF A) (iF B) (iF BG) (iF DN) m2 (iI ((cl v : Nat) : Int)) (iI t) (iI (i : Int)) (iF RR) = some (iI (f : Int), iF R') ∧ mX10_way_L165 (iI 0) ts (iI n) (iI tr) rm (iF X) (iF Y) ea (iF A) (iF B) (iF Ho) (iF Q) wi (iI c) (iI (f : Int)) m10 (iI (v : Int)) (iI t) (iI (i : Int)) (iF RR) = some (iI c, iI 0, iI (min c 0), iI (f : Int), iF X, iF Y, ea, iF Q, iF R', wi) := by
  have hkF := kF_ge
  intro d
  induction d with
  | zero =>
    intro i m2 m10 v t RR hi h1 h2 hv ht0 ht
    obtain ⟨m2, rfl⟩ : ∃ a, m2 = a + 1 := ⟨m2 - 1, by omega⟩
    obtain ⟨m10, rfl⟩ : ∃ a, m10 = a + 1 := ⟨m10 - 1, by omega⟩
    refine ⟨RR, ?_, ?_⟩
    · rw [mX7_writeRow_L9, if_pos ((iI_le (by omega) (by omega) (by omega) (by omega)).mpr (by omega))]
    · rw [mX10_way_L165, if_pos ((iI_le (by omega) (by omega) (by omega) (by omega)).mpr (by omega)), told_iI (by omega) (by omega)]
      rfl
  | succ d ih =>
    intro i m2 m10 v t RR hi h1 h2 hv ht0 ht
    obtain ⟨m2, rfl⟩ : ∃ a, m2 = a + 1 := ⟨m2 - 1, by omega⟩
    obtain ⟨m10, rfl⟩ : ∃ a, m10 = a + 1 := ⟨m10 - 1, by omega⟩
    have hzd := hz d (by omega)
    have t120 : t ≤ 120 := by have := (hz (d + 1) (by omega) v hv).2; omega
    obtain ⟨e0, he0, ok0⟩ := ok_ex hzd ht0 (hZ d (by omega) v hv) ht
    obtain ⟨e1, he1, ok1, no1⟩ := least_ex (P := OKS n tr A B Ho BG DN (Z d) v t) e0 ok0
    have s2 := first2_go hw (r := d) (L := L) (by omega) hv ⟨ht0, t120⟩ hzd (hL d (by omega)) (by omega) ok1 no1 30 0 kF (by omega) (by omega) (by omega) hw.1
    obtain ⟨b1, hb1, hbh, hle⟩ := ok1
    have hv1 := BH_v hbh
    have r0 := AW_ge (BG := BG) (DN := DN) (v := v) hw.2.2.1 hw.ho hv1 (t := t) (by omega)
    have rz := hzd b1 hb1
    have ii : (i : Int).toNat = i := by omega
    obtain ⟨R', y1, y2⟩ := ih (i + 1) m2 m10 b1 (AW tr Ho BG DN e1 v t) (upI RR i (e1 : Int)) (by omega) (by omega) (by omega) hb1 (by omega) hle
    refine ⟨R', ?_, ?_⟩
    · have pu : mX9_put 32 (iI (i : Int)) (iI (e1 : Int)) (iF RR) = iF (upI RR i (e1 : Int)) := by rw [pu_iI (by omega) (by omega) (by omega), pu_in (by omega) (by omega), ii]
      rw [mX7_writeRow_L9, if_neg (fun k => by have := (iI_le (by omega) (by omega) (by omega) (by omega)).mp k; omega), iI_sub, iI_sub, show (f : Int) - 1 - i = (d : Int) by omega, mX7_firstStep]
      rw [show iI 0 = iI ((0 : Nat) : Int) from rfl, s2]
      simp only [Option.bind_some]
      rw [pu]
      by_cases q : e1 = 30
      · have eb : b1 = (v + 16) % 32 := by rw [q, BH_30] at hbh; omega
        rw [if_pos (by rw [q]; rfl), other32 v hv, ← eb, iI_add, iI_add]
        rw [q, AW_30] at y1
        rw [q]
        exact y1
      · have hl := hv1.resolve_left q
        have ea : AR tr Ho BG DN e1 v t = AW tr Ho BG DN e1 v t := by rw [AR, if_pos (by omega)]
        rw [if_neg (fun y => by have := (iI_eq (by omega) (by omega) (by omega) (by omega)).mp y; omega), isNew32 v hv, arrival_iI hw hl hv (by omega), ea]
        simp only [Option.bind_some]
        rcases over_iI hw hl hv with ⟨z1, -⟩ | ⟨b, hb, z1, z2⟩
        · rw [z1] at hbh; omega
        · have : b = b1 := by omega
          subst this
          rw [z2, iI_add]
          exact y1
    · rw [mX10_way_L165, if_neg (fun k => by have := (iI_le (by omega) (by omega) (by omega) (by omega)).mp k; omega)]
      have s10 := first10_go hw hx (r := d) (v := v) (e1 := e1) (f := f) (i := i) (b1 := b1) (t := t) (Q := Q) (Z := Z d) (RR := RR) hf (by omega) hv ⟨ht0, t120⟩ hzd (hQ d (by omega)) (by omega) hb1 hbh hle no1 (iI 0) ts rm (iI c) ea wi (fun (v5_37 : Int32) (v8_37 : Int32) (t_row_37 : Nat → Int32) => (mX10_way_L165 (iI 0) ts (iI n) (iI tr) rm (iF X) (iF Y) ea (iF A) (iF B) (iF Ho) (iF Q) wi (iI c) (iI (f : Int)) m10 v5_37 v8_37 ((iI (i : Int)) + (iI 1)) t_row_37)) e1 0 kF (by omega) (by omega)
      refine s10.trans ?_
      show mX10_way_L165 _ _ _ _ _ _ _ _ _ _ _ _ _ _ _ m10 (iI (b1 : Int)) (iI (AW tr Ho BG DN e1 v t)) (iI (i : Int) + iI 1) (iF (upI RR i (e1 : Int))) = _
      rw [iI_add]
      exact y2
/-- the soonest way lies within what is late enough -/
theorem within_go {X0 Z : Nat → F1} (hw : WV n tr A B Ho BG DN) {f to st : Nat} {c h : Int} (hf : f ≤ 31) (ht : to < 16) (hc : 0 ≤ c ∧ c ≤ 120) (hg : gm (X0 f) to = c) (hX : ∀ j : Nat, j < 32 → MINR n tr A B Ho BG DN (fun _ => 1000000) (X0 j) (X0 (j + 1))) (hr : ∀ j : Nat, j ≤ 32 → HR (X0 j)) (h0 : ∀ v : Nat, v < 32 → Z 0 v = if v % 16 = to then c else -1) (hz : ∀ i : Nat, i ≤ f → HL (Z i)) (hZ : ∀ i : Nat, i < f → ∀ a : Nat, a < 32 → MXD n tr A B Ho BG DN (fun _ => True) (Z i) a (Z (i + 1) a)) (hst : ∀ v : Nat, v < 32 → X0 0 v = if v = st then h else 1000000) (hs : st < 32) : h ≤ Z f st := by
  have key : ∀ d k : Nat, k + d = f → ∃ v : Nat, v < 32 ∧ X0 k v ≤ 120 ∧ X0 k v ≤ Z d v := by
    intro d
    induction d with
    | zero =>
      intro k hk
      have e : k = f := by omega
      subst e
      rcases gm_or (X0 k) to with e | e
      · exact ⟨to, by omega, by omega, by rw [h0 to (by omega), if_pos (by omega)]; omega⟩
      · exact ⟨to + 16, by omega, by omega, by rw [h0 (to + 16) (by omega), if_pos (by omega)]; omega⟩
    | succ d ih =>
      intro k hk
      obtain ⟨v, hv, h1, h2⟩ := ih (k + 1) (by omega)
      rcases (hX k (by omega)).2.2 v hv with e | ⟨a, e, ha, he, hh, q⟩
      · have : X0 (k + 1) v = 1000000 := e
        omega
      · have ra := hr k (by omega) a ha
        have rv := hr (k + 1) (by omega) v hv
        have ge := AW_ge (BG := BG) (DN := DN) (v := a) hw.2.2.1 hw.ho (BH_v hh) (t := X0 k a) (by omega)
        have qa : AR tr Ho BG DN e a (X0 k a) = AW tr Ho BG DN e a (X0 k a) := by
          have y : AR tr Ho BG DN e a (X0 k a) ≤ 120 := by omega
          unfold AR at y ⊢
          split at y
          · rw [if_pos (by assumption)]
          · omega
        have rz := hz d (by omega) v hv
        have du := (dual (tr := tr) (Ho := Ho) (BG := BG) (DN := DN) (e := e) (v := a) (t := X0 k a) (h := Z d v) (by omega) (by omega) rz.2).mp (by omega)
        have mx := (hZ d (by omega) a ha).2.2.1 e v he hv hh trivial
        exact ⟨a, ha, by omega, by omega⟩
  obtain ⟨v, hv, h1, h2⟩ := key f 0 (by omega)
  rw [hst v hv] at h1 h2
  by_cases e : v = st
  · subst e
    rw [if_pos rfl] at h2
    exact h2
  · rw [if_neg e] at h1
    omega
end WB
