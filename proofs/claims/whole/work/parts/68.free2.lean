/-! PUSHED: the class, slots and chains -/
section P3
variable {T : Nat → F1} {PU : F1} {E : Int} {N : Nat} {w M : F1}
theorem BF.cg {k : Nat} {D D' : Nat → Prop} {q : F1} {L : Nat} {P : Nat → Int} (h : BF T PU E N M k D q L P) (hD : ∀ c : Nat, c < N → (D c ↔ D' c)) : BF T PU E N M k D' q L P := by
  refine ⟨h.1, h.q0, h.rg, h.ds, fun j a c => ?_, fun d hd h1 => h.al d hd ((hD d hd).mpr h1), h.pa⟩
  have := h.rg j c
  exact (hD _ (by omega)).mp (h.me j a c)
def GOE (T : Nat → F1) (PU : F1) (E : Int) (N : Nat) (M : F1) (k : Nat) (HS q : F1) (L : Nat) (HS' q' : F1) (L' : Nat) (W' : F1) : Prop := JJ T PU E N M k HS' q' L' W' ∧ L ≤ L' ∧ (∀ j : Nat, j < L → q' j = q j) ∧ ∀ p : Nat, p < 16 → HS p ≤ HS' p
def FRE (T : Nat → F1) (PU : F1) (E : Int) (N : Nat) (M : F1) (x : Nat) (p b : Nat) : Prop := p < 16 ∧ b < 30 ∧ 0 ≤ E - 1 - b ∧ UU T PU E x (120 * (p : Int) + (E - 1 - b)) ∧ cn M (120 * (p : Int) + (E - 1 - b)) N < PU p
theorem GOE.tr {k : Nat} {HS q HS1 q1 HS2 q2 W1 W2 : F1} {L L1 L2 : Nat} (h : GOE T PU E N M k HS q L HS1 q1 L1 W1) (h2 : GOE T PU E N M k HS1 q1 L1 HS2 q2 L2 W2) : GOE T PU E N M k HS q L HS2 q2 L2 W2 := by
  obtain ⟨-, a, b, c⟩ := h
  obtain ⟨d, e, f, g⟩ := h2
  exact ⟨d, by omega, fun j hj => (f j (by omega)).trans (b j hj), fun p hp => Int.le_trans (c p hp) (g p hp)⟩
theorem hours_go (hg : GV T PU E N) {k : Nat} (hk : k < N) (h0 : M k = -1) (hr : RE E w M) (hu : ∀ c : Nat, N ≤ c → M c = -1) {x : Nat} (hx : x < N) {p : Nat} (hp : p < 16) {hl : Int} (hl0 : -2000000 ≤ hl) (hl1 : hl ≤ 30) (hl2 : ∀ b : Int, 0 ≤ b → b < hl → 0 < PU p ∧ T x p ≤ E - 1 - b) {hd : Nat} (kk : Int32 → (Nat → Int32) → (Nat → Int32) → (Nat → Int32) → Option (Int32 × Int32 × (Nat → Int32) × (Nat → Int32) × (Nat → Int32))) :
    ∀ (d b m L : Nat) (HS q W : F1), hl ≤ (b : Int) + d → d < m → hd < L → q hd = (x : Int) → HS p = (b : Int) → JJ T PU E N M k HS q L W →
      (∃ (L' : Nat) (HS' q' W' : F1), mX5_freeSlot_L32 (iI (x : Int)) (iF PU) (iF w) (iI (p : Int)) (iI hl) kk m (iI (b : Int)) (iI (L : Int)) (iF HS) (iF q) (iF W) = kk (iI (L' : Int)) (iF HS') (iF q') (iF W') ∧ GOE T PU E N M k HS q L HS' q' L' W' ∧ hl ≤ HS' p) ∨
      (∃ (b' L' : Nat) (HS' q' W' : F1), mX5_freeSlot_L32 (iI (x : Int)) (iF PU) (iF w) (iI (p : Int)) (iI hl) kk m (iI (b : Int)) (iI (L : Int)) (iF HS) (iF q) (iF W) = some (iI (30 * (p : Int) + b'), iI (L' : Int), iF HS', iF q', iF W') ∧ GOE T PU E N M k HS q L HS' q' L' W' ∧ FRE T PU E N M x p b') := by
  intro d
  induction d with
  | zero =>
    intro b m L HS q W hi hm hL hq hb hJ
    obtain ⟨m, rfl⟩ : ∃ a, m = a + 1 := ⟨m - 1, by omega⟩
    have r := hJ.1 p hp
    refine Or.inl ⟨L, HS, q, W, ?_, ⟨hJ, Nat.le_refl L, fun _ _ => rfl, fun _ _ => Int.le_refl _⟩, by omega⟩
    rw [mX5_freeSlot_L32, if_pos ((iI_le (by omega) (by omega) (by omega) (by omega)).mpr (by omega))]
  | succ d ih =>
    intro b m L HS q W hi hm hL hq hb hJ
    obtain ⟨m, rfl⟩ : ∃ a, m = a + 1 := ⟨m - 1, by omega⟩
    have r := hJ.1 p hp
    by_cases c : hl ≤ (b : Int)
    · refine Or.inl ⟨L, HS, q, W, ?_, ⟨hJ, Nat.le_refl L, fun _ _ => rfl, fun _ _ => Int.le_refl _⟩, by omega⟩
      rw [mX5_freeSlot_L32, if_pos ((iI_le (by omega) (by omega) (by omega) (by omega)).mpr (by omega))]
    · obtain ⟨c1, c2⟩ := hl2 b (by omega) (by omega)
      have hb30 : b < 30 := by omega
      have ht := hg.2.2.2.2 x hx p hp
      have hE : 0 ≤ E - 1 - b := by omega
      have hE2 := hg.2.2.1
      have hu2 : UU T PU E x (120 * (p : Int) + (E - 1 - b)) := ⟨p, E - 1 - b, rfl, hp, c1, c2, by omega⟩
      have hPU := hg.2.2.2.1 p hp
      have hpp : (p : Int).toNat = p := by omega
      have a1 : mX9_at 16 (iI (p : Int)) (iF PU) = iI (PU p) := by rw [at_iI (by omega) (by omega) (by omega), at_in (by omega) (by omega), hpp]
      have hc := cn_in M (120 * (p : Int) + (E - 1 - b)) N
      have hN := hg.1
      have step : ∀ kk2, mX5_freeSlot_L32 (iI (x : Int)) (iF PU) (iF w) (iI (p : Int)) (iI hl) kk2 (m + 1) (iI (b : Int)) (iI (L : Int)) (iF HS) (iF q) (iF W) = (if iI (PU p) ≤ iI (cn M (120 * (p : Int) + (E - 1 - b)) N) then (Option.bind (mX5_askHolders (iI (30 * (p : Int) + b)) (iI (x : Int)) (iI (L : Int)) (iF q) (iF w) (iF W)) (fun o8 => mX5_freeSlot_L32 (iI (x : Int)) (iF PU) (iF w) (iI (p : Int)) (iI hl) kk2 m (iI ((b : Int) + 1)) o8.1 (mX9_put 16 (iI (p : Int)) (iI ((b : Int) + 1)) (iF HS)) o8.2.1 o8.2.2)) else some (iI (30 * (p : Int) + b), iI (L : Int), iF HS, iF q, iF W)) := by
        intro kk2
        rw [mX5_freeSlot_L32, if_neg (fun k => by have := (iI_le (by omega) (by omega) (by omega) (by omega)).mp k; omega), iI_mul, iI_add, show (p : Int) * 30 + (b : Int) = 30 * (p : Int) + b by omega, many2 hN hr hu hp hb30 hE]
        show (if mX9_at 16 (iI (p : Int)) (iF PU) ≤ _ then _ else _) = _
        rw [a1, iI_add]
      rw [step]
      by_cases f : PU p ≤ cn M (120 * (p : Int) + (E - 1 - b)) N
      · rw [if_pos ((iI_le (by omega) (by omega) (by omega) (by omega)).mpr f)]
        have hn : ¬ VC E HS (120 * (p : Int) + (E - 1 - b)) := by
          rintro ⟨p', b', h1, h2, h3⟩
          have := hJ.1 p' h1
          have e1 : p' = p := by omega
          subst e1
          omega
        have hkF := kF_ge
        obtain ⟨L', q', W', x1, x2, x3, x4, x5⟩ := ask_go (hd := hd) (x := (x : Int)) hg hk h0 hr hu hp hb30 hE hn 30 0 kF L q W (by omega) (by omega) hL hq (by rw [show (x : Int).toNat = x by omega]; exact hu2) hJ.2.2.2 (hJ.2.2.1.cg (fun c _ => by
          constructor
          · intro y; exact Or.inl y
          · rintro (y | y)
            · exact y
            · omega))
        have x1' : mX5_askHolders (iI (30 * (p : Int) + b)) (iI (x : Int)) (iI (L : Int)) (iF q) (iF w) (iF W) = some (iI (L' : Int), iF q', iF W') := x1
        have g1 : mX9_put 16 (iI (p : Int)) (iI ((b : Int) + 1)) (iF HS) = iF (upI HS p ((b : Int) + 1)) := by rw [pu_iI (by omega) (by omega) (by omega), pu_in (by omega) (by omega), hpp]
        have vc : ∀ s : Int, (VC E HS s ∨ s = 120 * (p : Int) + (E - 1 - b)) ↔ VC E (upI HS p ((b : Int) + 1)) s := by
          intro s
          constructor
          · rintro (⟨p', b', h1, h2, h3⟩ | y)
            · refine ⟨p', b', h1, ?_, h3⟩
              by_cases e : p' = p
              · subst e; rw [upI_s]; omega
              · rw [upI_n e]; exact h2
            · exact ⟨p, b, hp, by rw [upI_s]; omega, y⟩
          · rintro ⟨p', b', h1, h2, h3⟩
            by_cases e : p' = p
            · subst e
              rw [upI_s] at h2
              by_cases e2 : b' = b
              · subst e2; exact Or.inr h3
              · exact Or.inl ⟨p', b', h1, by omega, h3⟩
            · rw [upI_n e] at h2
              exact Or.inl ⟨p', b', h1, h2, h3⟩
        have hJ2 : JJ T PU E N M k (upI HS p ((b : Int) + 1)) q' L' W' := by
          refine ⟨fun p' h1 => ?_, fun p' b' h1 h2 => ?_, x5.cg (fun c _ => vc (M c)), x4⟩
          · by_cases e : p' = p
            · subst e; rw [upI_s]; omega
            · rw [upI_n e]; exact hJ.1 p' h1
          · by_cases e : p' = p
            · subst e
              rw [upI_s] at h2
              by_cases e2 : b' = b
              · subst e2; exact ⟨hE, c1, f⟩
              · exact hJ.2.1 p' b' h1 (by omega)
            · rw [upI_n e] at h2
              exact hJ.2.1 p' b' h1 h2
        have go1 : GOE T PU E N M k HS q L (upI HS p ((b : Int) + 1)) q' L' W' := ⟨hJ2, x2, x3, fun p' h1 => by
          by_cases e : p' = p
          · subst e; rw [upI_s]; omega
          · rw [upI_n e]; exact Int.le_refl _⟩
        rw [x1']
        show (∃ (L1 : Nat) (HS' q1 W1 : F1), mX5_freeSlot_L32 _ _ _ _ _ kk m (iI ((b : Int) + 1)) (iI (L' : Int)) (mX9_put 16 (iI (p : Int)) (iI ((b : Int) + 1)) (iF HS)) (iF q') (iF W') = _ ∧ _ ∧ _) ∨ (∃ (b' L1 : Nat) (HS' q1 W1 : F1), mX5_freeSlot_L32 _ _ _ _ _ kk m (iI ((b : Int) + 1)) (iI (L' : Int)) (mX9_put 16 (iI (p : Int)) (iI ((b : Int) + 1)) (iF HS)) (iF q') (iF W') = _ ∧ _ ∧ _)
        rw [g1]
        rcases ih (b + 1) m L' (upI HS p ((b : Int) + 1)) q' W' (by omega) (by omega) (by omega) (by rw [x3 hd hL]; exact hq) (by rw [upI_s]; omega) hJ2 with ⟨L1, HS1, q1, W1, y1, y2, y3⟩ | ⟨b1, L1, HS1, q1, W1, y1, y2, y3⟩
        · exact Or.inl ⟨L1, HS1, q1, W1, y1, go1.tr y2, y3⟩
        · exact Or.inr ⟨b1, L1, HS1, q1, W1, y1, go1.tr y2, y3⟩
      · rw [if_neg (fun y => f ((iI_le (by omega) (by omega) (by omega) (by omega)).mp y))]
        exact Or.inr ⟨b, L, HS, q, W, rfl, ⟨hJ, Nat.le_refl L, fun _ _ => rfl, fun _ _ => Int.le_refl _⟩, hp, hb30, hE, hu2, by omega⟩
/-- hours left of a car at a place -/
def hlO (T : Nat → F1) (PU : F1) (E : Int) (x p : Nat) : Int := if PU p ≤ 0 then 0 else if 30 < E - T x p then 30 else E - T x p
theorem places_go (hg : GV T PU E N) {k : Nat} (hk : k < N) (h0 : M k = -1) (hr : RE E w M) (hu : ∀ c : Nat, N ≤ c → M c = -1) {x : Nat} (hx : x < N) {HL : F1} (hHL : ∀ p : Nat, p < 16 → HL (16 * x + p) = hlO T PU E x p) {hd : Nat} :
    ∀ (d p m L : Nat) (HS q W : F1), p + d = 16 → d < m → hd < L → q hd = (x : Int) → (∀ p' : Nat, p' < p → hlO T PU E x p' ≤ HS p') → JJ T PU E N M k HS q L W →
      (∃ (L' : Nat) (HS' q' W' : F1), mX5_freeSlot_L2 (iI (x : Int)) (iF HL) (iF PU) (iF w) m (iI (p : Int)) (iI (L : Int)) (iF HS) (iF q) (iF W) = some (iI (-1), iI (L' : Int), iF HS', iF q', iF W') ∧ GOE T PU E N M k HS q L HS' q' L' W' ∧ ∀ p' : Nat, p' < 16 → hlO T PU E x p' ≤ HS' p') ∨
      (∃ (p' b' L' : Nat) (HS' q' W' : F1), mX5_freeSlot_L2 (iI (x : Int)) (iF HL) (iF PU) (iF w) m (iI (p : Int)) (iI (L : Int)) (iF HS) (iF q) (iF W) = some (iI (30 * (p' : Int) + b'), iI (L' : Int), iF HS', iF q', iF W') ∧ GOE T PU E N M k HS q L HS' q' L' W' ∧ FRE T PU E N M x p' b') := by
  intro d
  induction d with
  | zero =>
    intro p m L HS q W hi hm hL hq hb hJ
    obtain ⟨m, rfl⟩ : ∃ a, m = a + 1 := ⟨m - 1, by omega⟩
    refine Or.inl ⟨L, HS, q, W, ?_, ⟨hJ, Nat.le_refl L, fun _ _ => rfl, fun _ _ => Int.le_refl _⟩, fun p' hp' => hb p' (by omega)⟩
    rw [mX5_freeSlot_L2, if_pos ((iI_le (by omega) (by omega) (by omega) (by omega)).mpr (by omega))]
  | succ d ih =>
    intro p m L HS q W hi hm hL hq hb hJ
    obtain ⟨m, rfl⟩ : ∃ a, m = a + 1 := ⟨m - 1, by omega⟩
    have hp : p < 16 := by omega
    have hN := hg.1
    have hkF := kF_ge
    have hpp : (p : Int).toNat = p := by omega
    have ht := hg.2.2.2.2 x hx p hp
    have hE0 := hg.2.1
    have hE1 := hg.2.2.1
    have hPU := hg.2.2.2.1 p hp
    have rS := hJ.1 p hp
    have hlr : -2000000 ≤ hlO T PU E x p ∧ hlO T PU E x p ≤ 30 := by
      unfold hlO
      split
      · omega
      · split <;> omega
    have a1 : mX9_at 16 (iI (p : Int)) (iF HS) = iI (HS p) := by rw [at_iI (by omega) (by omega) (by omega), at_in (by omega) (by omega), hpp]
    have a2 : mX9_at 480 (iI (x : Int) * iI 16 + iI (p : Int)) (iF HL) = iI (hlO T PU E x p) := by
      rw [iI_mul, iI_add, at_iI (by omega) (by omega) (by omega), at_in (by omega) (by omega), show ((x : Int) * 16 + (p : Int)).toNat = 16 * x + p by omega, hHL p hp]
    obtain ⟨b, eb⟩ : ∃ b : Nat, HS p = (b : Int) := ⟨(HS p).toNat, by omega⟩
    rw [mX5_freeSlot_L2, if_neg (fun k => by have := (iI_le (by omega) (by omega) (by omega) (by omega)).mp k; omega), a1, a2, eb]
    rcases hours_go (w := w) hg hk h0 hr hu hx hp hlr.1 hlr.2 (fun b2 h1 h2 => by
      unfold hlO at h2
      split at h2
      · omega
      · split at h2 <;> omega) (fun (t_queued_10 : Int32) (t_hoursSeen_10 : Nat → Int32) (t_queue_10 : Nat → Int32) (t_wantedBy_10 : Nat → Int32) => (mX5_freeSlot_L2 (iI (x : Int)) (iF HL) (iF PU) (iF w) m (iI (p : Int) + (iI 1)) t_queued_10 t_hoursSeen_10 t_queue_10 t_wantedBy_10)) (hd := hd) 30 b kF L HS q W (by omega) (by omega) hL hq eb hJ with ⟨L1, HS1, q1, W1, y1, y2, y3⟩ | ⟨b1, L1, HS1, q1, W1, y1, y2, y3⟩
    · rw [y1]
      show (∃ (L' : Nat) (HS' q' W' : F1), mX5_freeSlot_L2 _ _ _ _ m (iI (p : Int) + iI 1) (iI (L1 : Int)) (iF HS1) (iF q1) (iF W1) = _ ∧ _ ∧ _) ∨ (∃ (p' b' L' : Nat) (HS' q' W' : F1), mX5_freeSlot_L2 _ _ _ _ m (iI (p : Int) + iI 1) (iI (L1 : Int)) (iF HS1) (iF q1) (iF W1) = _ ∧ _ ∧ _)
      rw [iI_add]
      have y22 := y2.2.1
      rcases ih (p + 1) m L1 HS1 q1 W1 (by omega) (by omega) (by omega) (by rw [y2.2.2.1 hd hL]; exact hq) (fun p' hp' => by
        by_cases e : p' = p
        · subst e; exact y3
        · exact Int.le_trans (hb p' (by omega)) (y2.2.2.2 p' (by omega))) y2.1 with ⟨L2, HS2, q2, W2, z1, z2, z3⟩ | ⟨p2, b2, L2, HS2, q2, W2, z1, z2, z3⟩
      · exact Or.inl ⟨L2, HS2, q2, W2, z1, y2.tr z2, z3⟩
      · exact Or.inr ⟨p2, b2, L2, HS2, q2, W2, z1, y2.tr z2, z3⟩
    · exact Or.inr ⟨p, b1, L1, HS1, q1, W1, y1, y2, y3⟩
end P3
