/-! PUSHED: the reference -/
section P7
variable {T : Nat → F1} {PU : F1} {E : Int} {N : Nat} {S M : F1}
theorem BF.cp {k : Nat} {D : Nat → Prop} {q : F1} {L : Nat} {P P' : Nat → Int} (h : BF T PU E N M k D q L P) (hP : ∀ c : Nat, c < N → D c → P' c = P c) : BF T PU E N M k D q L P' := by
  refine ⟨h.1, h.q0, h.rg, h.ds, h.me, h.al, fun i a b => ?_⟩
  obtain ⟨j, c, d, e⟩ := h.pa i a b
  have r := h.rg i b
  exact ⟨j, c, by rw [hP _ (by omega) (h.me i a b)]; exact d, e⟩
def VR (CB : F1) (s : Int) : Prop := 0 ≤ s ∧ s < 1920 ∧ CB s.toNat ≠ -1
def KK (T : Nat → F1) (PU : F1) (E : Int) (N : Nat) (M : F1) (k : Nat) (CB q : F1) (L : Nat) : Prop := (∀ s : Nat, s < 1920 → -1 ≤ CB s ∧ CB s < 30) ∧ (∀ s : Int, VR CB s → ∃ (p : Nat) (h : Int), s = 120 * (p : Int) + h ∧ p < 16 ∧ 0 ≤ h ∧ h < 120 ∧ PU p ≤ cn M s N) ∧ BF T PU E N M k (fun d => VR CB (M d)) q L (fun d => CB (M d).toNat)
def GOR (T : Nat → F1) (PU : F1) (E : Int) (N : Nat) (M : F1) (k : Nat) (CB q : F1) (L : Nat) (CB' q' : F1) (L' : Nat) : Prop := KK T PU E N M k CB' q' L' ∧ L ≤ L' ∧ (∀ j : Nat, j < L → q' j = q j) ∧ ∀ s : Int, VR CB s → VR CB' s
theorem GOR.tr {k : Nat} {CB q CB1 q1 CB2 q2 : F1} {L L1 L2 : Nat} (h : GOR T PU E N M k CB q L CB1 q1 L1) (h2 : GOR T PU E N M k CB1 q1 L1 CB2 q2 L2) : GOR T PU E N M k CB q L CB2 q2 L2 := by
  obtain ⟨-, a, b, c⟩ := h
  obtain ⟨d, e, f, g⟩ := h2
  exact ⟨d, by omega, fun j hj => (f j (by omega)).trans (b j hj), fun s hs => g s (c s hs)⟩
theorem VM.rg (hg : GV T PU E N) (hv : VM T PU E N M) {c : Nat} (hc : c < N) : -1 ≤ M c ∧ M c < 1920 := by
  rcases hv.1 c hc with h | h
  · omega
  · obtain ⟨-, -, -, -, -, -, -, -, -, -, -, s0, s1⟩ := h.in hg hc
    omega
theorem ask10_go (hg : GV T PU E N) (hv : VM T PU E N M) {k : Nat} (h0 : M k = -1) (hS : ∀ c : Nat, c < N → S c = M c) {CB : F1} {s : Int} (hs : 0 ≤ s ∧ s < 1920) (hn : ¬ VR CB s) {x : Nat} {hd : Nat} (hu : UU T PU E x s) (kk : Int32 → (Nat → Int32) → Option (Int32 × (Nat → Int32) × (Nat → Int32) × (Nat → Int32) × (Nat → Int32))) :
    ∀ (d i m L : Nat) (q : F1), i + d = N → d < m → hd < L → q hd = (x : Int) → BF T PU E N M k (fun c => VR CB (M c) ∨ (M c = s ∧ c < i)) q L (fun c => upI CB s.toNat (x : Int) (M c).toNat) →
      ∃ (L' : Nat) (q' : F1), mX10_place_L165 (iI (N : Int)) (iF S) (iI s) kk m (iI (L : Int)) (iI (i : Int)) (iF q) = kk (iI (L' : Int)) (iF q') ∧ L ≤ L' ∧ (∀ j : Nat, j < L → q' j = q j) ∧ BF T PU E N M k (fun c => VR CB (M c) ∨ M c = s) q' L' (fun c => upI CB s.toNat (x : Int) (M c).toNat)
  | 0, i, 0, _, _, _, hm => absurd hm (Nat.not_lt_zero _)
  | 0, i, m + 1, L, q, hi, _ => fun hL hq h => by
    have hN := hg.1
    refine ⟨L, q, ?_, Nat.le_refl L, fun _ _ => rfl, h.cg (fun c hc => ⟨fun y => ?_, fun y => ?_⟩)⟩
    · rw [mX10_place_L165, if_pos ((iI_le (by omega) (by omega) (by omega) (by omega)).mpr (by omega))]
    · rcases y with y | y
      · exact Or.inl y
      · exact Or.inr y.1
    · rcases y with y | y
      · exact Or.inl y
      · exact Or.inr ⟨y, by omega⟩
  | d + 1, i, 0, _, _, _, hm => absurd hm (Nat.not_lt_zero _)
  | d + 1, i, m + 1, L, q, hi, hm => fun hL hq h => by
    have hN := hg.1
    have hLN := h.len
    have r := hv.rg hg (c := i) (by omega)
    have hii : (i : Int).toNat = i := by omega
    have hLL : (L : Int).toNat = L := by omega
    have g := gdn (z := (i : Int)) (n := 30) (by omega) (by omega) (by omega)
    have a1 : iF S (iI (i : Int)).toNatClampNeg = iI (M i) := by rw [rd (by omega) (by omega), hii, hS i (by omega)]
    rw [mX10_place_L165, if_neg (fun k => by have := (iI_le (by omega) (by omega) (by omega) (by omega)).mp k; omega), if_neg g, a1]
    by_cases e : M i = s
    · have hik : i ≠ k := fun y => by
        rw [y, h0] at e
        omega
      have h2 := h.ask (d := i) (D' := fun c => VR CB (M c) ∨ (M c = s ∧ c < i + 1)) (P' := fun c => upI CB s.toNat (x : Int) (M c).toNat) (hd' := hd) (by omega) hik (fun y => by
        rcases y with y | y
        · rw [e] at y; exact hn y
        · omega) (fun c _ => by
        constructor
        · rintro (y | ⟨y, y2⟩)
          · exact Or.inl (Or.inl y)
          · by_cases y3 : c = i
            · exact Or.inr y3
            · exact Or.inl (Or.inr ⟨y, by omega⟩)
        · rintro ((y | ⟨y, y2⟩) | y)
          · exact Or.inl y
          · exact Or.inr ⟨y, by omega⟩
          · exact Or.inr ⟨by rw [y]; exact e, by omega⟩) hL (by rw [hq, e]; exact hu) (by show upI CB s.toNat (x : Int) (M i).toNat = _; rw [e, upI_s, hq]) (fun c _ _ => rfl)
      have hLN2 := h2.len
      have g2 := gdn (z := (L : Int)) (n := 30) (by omega) (by omega) (by omega)
      obtain ⟨L', q', x1, x2, x3, x4⟩ := ask10_go (hd := hd) hg hv h0 hS hs hn hu kk d (i + 1) m (L + 1) (upI q L (i : Int)) (by omega) (by omega) (by omega) (by rw [upI_n (k := L) (j := hd) (by omega)]; exact hq) h2
      refine ⟨L', q', ?_, by omega, fun j hj => ?_, x4⟩
      · rw [if_pos (by rw [e]), if_neg g2, wr (by omega) (by omega), hLL, iI_add, iI_add]
        exact x1
      · rw [x3 j (by omega), upI_n (by omega)]
    · have h2 := h.cg (D' := fun c => VR CB (M c) ∨ (M c = s ∧ c < i + 1)) (fun c hc => by
        constructor
        · rintro (y | ⟨y, y2⟩)
          · exact Or.inl y
          · exact Or.inr ⟨y, by omega⟩
        · rintro (y | ⟨y, y2⟩)
          · exact Or.inl y
          · refine Or.inr ⟨y, ?_⟩
            have : c ≠ i := fun z => e (by rw [← z]; exact y)
            omega)
      obtain ⟨L', q', x1, x2, x3, x4⟩ := ask10_go (hd := hd) hg hv h0 hS hs hn hu kk d (i + 1) m L q (by omega) (by omega) hL hq h2
      refine ⟨L', q', ?_, x2, x3, x4⟩
      rw [if_neg (fun k => e ((iI_eq (by omega) (by omega) (by omega) (by omega)).mp k)), iI_add]
      exact x1
theorem VR_up {CB : F1} {s t : Int} {x : Nat} (hs : 0 ≤ s ∧ s < 1920) : VR (upI CB s.toNat (x : Int)) t ↔ VR CB t ∨ t = s := by
  unfold VR
  by_cases e : t = s
  · subst e
    rw [upI_s]
    constructor
    · intro _; exact Or.inr rfl
    · intro _; omega
  · constructor
    · rintro ⟨a, b, c⟩
      rw [upI_n (by omega)] at c
      exact Or.inl ⟨a, b, c⟩
    · rintro (⟨a, b, c⟩ | c)
      · refine ⟨a, b, ?_⟩
        rw [upI_n (by omega)]; exact c
      · exact absurd c e
def FRR (T : Nat → F1) (PU : F1) (E : Int) (N : Nat) (M : F1) (x : Nat) (CB : F1) (s : Int) : Prop := UU T PU E x s ∧ ¬ VR CB s ∧ ∀ (p : Nat) (h : Int), s = 120 * (p : Int) + h → p < 16 → 0 ≤ h → h < 120 → cn M s N < PU p
theorem hours10_go (hg : GV T PU E N) (hv : VM T PU E N M) {k : Nat} (h0 : M k = -1) (hS : ∀ c : Nat, c < N → S c = M c) {Fl : F1} (hF : ∀ s : Nat, s < 1920 → Fl s = cn M s N) {x : Nat} (hx : x < N) {p : Nat} (hp : p < 16) {hd : Nat}
    (k142 : Int32 → (Nat → Int32) → (Nat → Int32) → Option (Int32 × (Nat → Int32) × (Nat → Int32) × (Nat → Int32) × (Nat → Int32))) (k210 : Int32 → (Nat → Int32) → (Nat → Int32) → Option (Int32 × (Nat → Int32) × (Nat → Int32) × (Nat → Int32) × (Nat → Int32))) :
    ∀ (d m L : Nat) (h : Int) (CB q : F1), E ≤ h + d → T x p ≤ h → h ≤ 1000000 → d < m → hd < L → q hd = (x : Int) → KK T PU E N M k CB q L →
      (∃ (L' : Nat) (CB' q' : F1), mX10_place_L76 (iI E) (iI (N : Int)) (iF Fl) (iF PU) (iF S) (iI (x : Int)) (iI (p : Int)) k142 k210 m (iI (L : Int)) (iI h) (iF CB) (iF q) = k210 (iI (L' : Int)) (iF CB') (iF q') ∧ GOR T PU E N M k CB q L CB' q' L' ∧ ∀ h' : Int, h ≤ h' → h' < E → 0 < PU p → VR CB' (120 * (p : Int) + h')) ∨
      (∃ (s : Int) (L' : Nat) (CB' q' : F1), mX10_place_L76 (iI E) (iI (N : Int)) (iF Fl) (iF PU) (iF S) (iI (x : Int)) (iI (p : Int)) k142 k210 m (iI (L : Int)) (iI h) (iF CB) (iF q) = k142 (iI s) (iF (upI CB' s.toNat (x : Int))) (iF q') ∧ GOR T PU E N M k CB q L CB' q' L' ∧ FRR T PU E N M x CB' s) := by
  intro d
  have hN := hg.1
  have hE0 := hg.2.1
  have hE1 := hg.2.2.1
  have hPU := hg.2.2.2.1 p hp
  have ht := hg.2.2.2.2 x hx p hp
  have hkF := kF_ge
  have hpp : (p : Int).toNat = p := by omega
  have gp := gdn (z := (p : Int)) (n := 16) (by omega) (by omega) (by omega)
  have a1 : iF PU (iI (p : Int)).toNatClampNeg = iI (PU p) := by rw [rd (by omega) (by omega), hpp]
  induction d with
  | zero =>
    intro m L h CB q hi hth hh hm hL hq hK
    obtain ⟨m, rfl⟩ : ∃ a, m = a + 1 := ⟨m - 1, by omega⟩
    refine Or.inl ⟨L, CB, q, ?_, ⟨hK, Nat.le_refl L, fun _ _ => rfl, fun _ hs => hs⟩, fun h' h1 h2 => by omega⟩
    rw [mX10_place_L76, if_pos ((iI_le (by omega) (by omega) (by omega) (by omega)).mpr (by omega))]
  | succ d ih =>
    intro m L h CB q hi hth hh hm hL hq hK
    obtain ⟨m, rfl⟩ : ∃ a, m = a + 1 := ⟨m - 1, by omega⟩
    by_cases c : E ≤ h
    · refine Or.inl ⟨L, CB, q, ?_, ⟨hK, Nat.le_refl L, fun _ _ => rfl, fun _ hs => hs⟩, fun h' h1 h2 => by omega⟩
      rw [mX10_place_L76, if_pos ((iI_le (by omega) (by omega) (by omega) (by omega)).mpr (by omega))]
    · rw [mX10_place_L76, if_neg (fun k => by have := (iI_le (by omega) (by omega) (by omega) (by omega)).mp k; omega), if_neg gp, a1]
      by_cases c1 : PU p ≤ 0
      · rw [if_pos ((iI_le0 (by omega) (by omega)).mpr c1)]
        exact Or.inl ⟨L, CB, q, rfl, ⟨hK, Nat.le_refl L, fun _ _ => rfl, fun _ hs => hs⟩, fun h' h1 h2 h3 => by omega⟩
      · have gs := gdn (z := 120 * (p : Int) + h) (n := 1920) (by omega) (by omega) (by omega)
        have hs : 0 ≤ 120 * (p : Int) + h ∧ 120 * (p : Int) + h < 1920 := by omega
        have rc := hK.1 (120 * (p : Int) + h).toNat (by omega)
        have hu2 : UU T PU E x (120 * (p : Int) + h) := ⟨p, h, rfl, hp, by omega, hth, by omega⟩
        rw [if_neg (fun y => c1 ((iI_le0 (by omega) (by omega)).mp y)), iI_mul, iI_add, if_neg gs, rd (by omega) (by omega)]
        by_cases c2 : CB (120 * (p : Int) + h).toNat = -1
        · have hn : ¬ VR CB (120 * (p : Int) + h) := fun y => y.2.2 c2
          have ef : Fl (120 * (p : Int) + h).toNat = cn M (120 * (p : Int) + h) N := by
            rw [hF _ (by omega), show (((120 * (p : Int) + h).toNat : Nat) : Int) = 120 * (p : Int) + h by omega]
          have hc := cn_in M (120 * (p : Int) + h) N
          rw [if_pos (by rw [c2]), if_neg gs, if_neg gs, if_neg gp, rd (by omega) (by omega), ef, wr (by omega) (by omega)]
          by_cases f : PU p ≤ cn M (120 * (p : Int) + h) N
          · rw [if_pos ((iI_le (by omega) (by omega) (by omega) (by omega)).mpr f)]
            obtain ⟨L', q', x1, x2, x3, x4⟩ := ask10_go (S := S) (hd := hd) hg hv h0 hS hs hn hu2 (fun (v4_21 : Int32) (t_queue_21 : Nat → Int32) => (mX10_place_L76 (iI E) (iI (N : Int)) (iF Fl) (iF PU) (iF S) (iI (x : Int)) (iI (p : Int)) k142 k210 m v4_21 (iI h + (iI 1)) (iF (upI CB (120 * (p : Int) + h).toNat (x : Int))) t_queue_21)) N 0 kF L q (by omega) (by omega) hL hq ((hK.2.2.cg (fun c _ => by
                constructor
                · intro y; exact Or.inl y
                · rintro (y | y)
                  · exact y
                  · omega)).cp (fun c _ hc => by
                have hc2 : M c ≠ 120 * (p : Int) + h := fun y => by
                  rcases hc with z | z
                  · rw [y] at z; exact hn z
                  · omega
                have hc3 : 0 ≤ M c := by
                  rcases hc with z | z
                  · exact z.1
                  · omega
                exact upI_n (by omega)))
            have hK2 : KK T PU E N M k (upI CB (120 * (p : Int) + h).toNat (x : Int)) q' L' := by
              refine ⟨fun t ht2 => ?_, fun t ht2 => ?_, x4.cg (fun c _ => (VR_up hs).symm)⟩
              · by_cases e : t = (120 * (p : Int) + h).toNat
                · rw [e, upI_s]; omega
                · rw [upI_n e]; exact hK.1 t ht2
              · rcases (VR_up hs).mp ht2 with y | y
                · exact hK.2.1 t y
                · exact ⟨p, h, y, hp, by omega, by omega, by rw [y]; exact f⟩
            have go1 : GOR T PU E N M k CB q L (upI CB (120 * (p : Int) + h).toNat (x : Int)) q' L' := ⟨hK2, x2, x3, fun t y => (VR_up hs).mpr (Or.inl y)⟩
            have x1' := x1
            simp only [iI_add] at x1'
            rw [iI_add]
            rcases ih m L' (h + 1) (upI CB (120 * (p : Int) + h).toNat (x : Int)) q' (by omega) (by omega) (by omega) (by omega) (by omega) (by rw [x3 hd hL]; exact hq) hK2 with ⟨L1, CB1, q1, y1, y2, y3⟩ | ⟨s1, L1, CB1, q1, y1, y2, y3⟩
            · refine Or.inl ⟨L1, CB1, q1, x1'.trans y1, go1.tr y2, fun h' h1 h2 h3 => ?_⟩
              by_cases e : h' = h
              · subst e
                exact y2.2.2.2 _ ((VR_up hs).mpr (Or.inr rfl))
              · exact y3 h' (by omega) h2 h3
            · exact Or.inr ⟨s1, L1, CB1, q1, x1'.trans y1, go1.tr y2, y3⟩
          · rw [if_neg (fun y => f ((iI_le (by omega) (by omega) (by omega) (by omega)).mp y))]
            refine Or.inr ⟨120 * (p : Int) + h, L, CB, q, rfl, ⟨hK, Nat.le_refl L, fun _ _ => rfl, fun _ hs => hs⟩, hu2, hn, fun p' h' e1 e2 e3 e4 => ?_⟩
            have : p' = p := by omega
            subst this
            omega
        · rw [if_neg (fun y => c2 ((iI_eq (by omega) (by omega) (by omega) (by omega)).mp y)), iI_add]
          rcases ih m L (h + 1) CB q (by omega) (by omega) (by omega) (by omega) hL hq hK with ⟨L1, CB1, q1, y1, y2, y3⟩ | ⟨s1, L1, CB1, q1, y1, y2, y3⟩
          · refine Or.inl ⟨L1, CB1, q1, y1, y2, fun h' h1 h2 h3 => ?_⟩
            by_cases e : h' = h
            · subst e
              exact y2.2.2.2 _ ⟨hs.1, hs.2, c2⟩
            · exact y3 h' (by omega) h2 h3
          · exact Or.inr ⟨s1, L1, CB1, q1, y1, y2, y3⟩
end P7
