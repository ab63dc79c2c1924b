/-! PUSHED: the class' answer -/
section P5
variable {T : Nat → F1} {PU : F1} {E : Int} {N : Nat} {w M : F1}
/-- which cars come in, each in its turn -/
def EXS (T : Nat → F1) (PU : F1) (E : Int) (N : Nat) (S : Nat → Prop) (k : Nat) : Prop := ∃ M' : F1, VM T PU E N M' ∧ M' k ≠ -1 ∧ ∀ c : Nat, c < N → S c → M' c ≠ -1
def GS (T : Nat → F1) (PU : F1) (E : Int) (N : Nat) : Nat → Nat → Prop
  | 0 => fun _ => False
  | k + 1 => fun c => GS T PU E N k c ∨ (c = k ∧ EXS T PU E N (GS T PU E N k) k)
theorem GS_lt : ∀ {k c : Nat}, GS T PU E N k c → c < k
  | 0, _, h => False.elim h
  | k + 1, c, h => by
    rcases h with h | ⟨h, -⟩
    · have := GS_lt h
      omega
    · omega
theorem GS_new (k : Nat) : GS T PU E N (k + 1) k ↔ EXS T PU E N (GS T PU E N k) k := by
  constructor
  · rintro (h | ⟨-, h⟩)
    · have := GS_lt h
      omega
    · exact h
  · intro h
    exact Or.inr ⟨rfl, h⟩
noncomputable def gi (T : Nat → F1) (PU : F1) (E : Int) (N : Nat) (c : Nat) : Int := @ite Int (GS T PU E N (c + 1) c) (Classical.propDecidable _) 1 0
theorem gi_1 {c : Nat} (h : GS T PU E N (c + 1) c) : gi T PU E N c = 1 := if_pos h
theorem gi_0 {c : Nat} (h : ¬ GS T PU E N (c + 1) c) : gi T PU E N c = 0 := if_neg h
theorem gs_in (k : Nat) : 0 ≤ sm (gi T PU E N) k ∧ sm (gi T PU E N) k ≤ k := by
  have := sm_in (f := gi T PU E N) (b := 1) (by omega) (n := k) (fun l _ => by
    by_cases h : GS T PU E N (l + 1) l
    · rw [gi_1 h]; omega
    · rw [gi_0 h]; omega)
  omega
/-- those who have slots are those who come in -/
def SET (T : Nat → F1) (PU : F1) (E : Int) (N k : Nat) (M : F1) : Prop := VM T PU E N M ∧ ∀ c : Nat, (M c ≠ -1 ↔ GS T PU E N k c)
theorem SET.ex {k : Nat} (h : SET T PU E N k M) : EXT T PU E N M k ↔ EXS T PU E N (GS T PU E N k) k := by
  constructor
  · rintro ⟨M', a, b, c⟩
    exact ⟨M', a, b, fun d hd hs => c d hd ((h.2 d).mpr hs)⟩
  · rintro ⟨M', a, b, c⟩
    exact ⟨M', a, b, fun d hd hs => c d hd ((h.2 d).mp hs)⟩
theorem SET.no {k : Nat} (h : SET T PU E N k M) (c : Nat) (hc : k ≤ c) : M c = -1 := by
  rcases Int.decEq (M c) (-1) with e | e
  · have := GS_lt ((h.2 c).mp e)
    omega
  · exact e
theorem SET.keep {k : Nat} (h : SET T PU E N k M) (x : ¬ EXT T PU E N M k) : SET T PU E N (k + 1) M ∧ gi T PU E N k = 0 := by
  have y : ¬ EXS T PU E N (GS T PU E N k) k := fun z => x (h.ex.mpr z)
  refine ⟨⟨h.1, fun c => (h.2 c).trans ⟨fun z => Or.inl z, fun z => ?_⟩⟩, gi_0 (fun z => y ((GS_new k).mp z))⟩
  rcases z with z | ⟨-, z⟩
  · exact z
  · exact absurd z y
theorem SET.more {k : Nat} {M' : F1} (h : SET T PU E N k M) (x : DNE T PU E N M k M') : SET T PU E N (k + 1) M' ∧ gi T PU E N k = 1 := by
  obtain ⟨a, b, c⟩ := x
  have y : EXS T PU E N (GS T PU E N k) k := h.ex.mp ⟨M', a, b, fun d _ hd e => by
    by_cases z : d = k
    · exact b (by rw [← z]; exact e)
    · exact hd ((c d z).mp e)⟩
  refine ⟨⟨a, fun d => ?_⟩, gi_1 ((GS_new k).mpr y)⟩
  by_cases z : d = k
  · subst z
    exact ⟨fun _ => Or.inr ⟨rfl, y⟩, fun _ => b⟩
  · constructor
    · intro e
      exact Or.inl ((h.2 d).mp (fun e2 => e ((c d z).mpr e2)))
    · rintro (e | ⟨e, -⟩)
      · exact fun e2 => (h.2 d).mpr e ((c d z).mp e2)
      · exact absurd e z
theorem comes_set (hg : GV T PU E N) {k : Nat} (hk : k < N) (hr : RE E w M) (hs : SET T PU E N k M) {HL : F1} (hHL : ∀ c : Nat, c ≤ k → ∀ p : Nat, p < 16 → HL (16 * c + p) = hlO T PU E c p) (HS0 q0 W0 : F1) :
    ∃ (a : Int) (L' : Nat) (HS' q' W' w' M' : F1), mX5_comesIntoSet (iI (k : Int)) (iF HL) (iF HS0) (iF PU) (iF q0) (iF w) (iF W0) = some (iI a, iI (L' : Int), iF HS', iF q', iF w', iF W') ∧ RE E w' M' ∧ SET T PU E N (k + 1) M' ∧ (a = 0 ∨ a = 1) ∧ gi T PU E N k = a := by
  have hkF := kF_ge
  have hN := hg.1
  have h0 : M k = -1 := hs.no k (Nat.le_refl k)
  have hkk : (k : Int).toNat = k := by omega
  have e1 : (fun j => if j < 16 then iI 0 else iF HS0 j) = iF (fun j => if j < 16 then 0 else HS0 j) := funext fun j => by
    show (if j < 16 then iI 0 else iI (HS0 j)) = iI (if j < 16 then 0 else HS0 j)
    split <;> rfl
  have g1 : mX9_put 30 (iI 0) (iI (k : Int)) (iF q0) = iF (upI q0 0 (k : Int)) := by rw [pu_iI (by omega) (by omega) (by omega), pu_in (by omega) (by omega)]; rfl
  have g2 : mX9_put 30 (iI (k : Int)) (iI (-1)) (iF W0) = iF (upI W0 k (-1)) := by rw [pu_iI (by omega) (by omega) (by omega), pu_in (by omega) (by omega), hkk]
  have hz : ∀ p : Nat, p < 16 → (fun j => if j < 16 then (0 : Int) else HS0 j) p = 0 := fun p hp => if_pos hp
  have hJ : JJ T PU E N M k (fun j => if j < 16 then 0 else HS0 j) (upI q0 0 (k : Int)) 1 (upI W0 k (-1)) := by
    have nv : ∀ s : Int, ¬ VC E (fun j => if j < 16 then (0 : Int) else HS0 j) s := by
      rintro s ⟨p, b, h1, h2, -⟩
      rw [hz p h1] at h2
      omega
    refine ⟨fun p hp => ?_, fun p b hp hb => ?_, ⟨Nat.le_refl 1, upI_s _ _ _, fun i hi => ?_, fun i j hij hj => by omega, fun i h1 h2 => by omega, fun d _ hd => absurd hd (nv _), fun i h1 h2 => by omega⟩, upI_s _ _ _⟩
    · rw [hz p hp]; omega
    · rw [hz p hp] at hb; omega
    · have : i = 0 := by omega
      subst this
      rw [upI_s]; omega
  obtain ⟨a, L', HS', q', W', w', M', x1, x2, x3⟩ := set_go (w := w) (HL := HL) hg hk h0 hr hs.1 (fun c hc => hs.no c (by omega)) (fun c hc hcc p hp => hHL c (by
    rcases hcc with y | y
    · rcases Nat.lt_or_ge c k with z | z
      · omega
      · exact absurd (hs.no c z) y
    · omega) p hp) 30 0 kF 1 _ _ _ (by omega) (by omega) (by omega) (fun i hi => absurd hi (Nat.not_lt_zero _)) hJ
  refine ⟨a, L', HS', q', W', w', M', ?_, x2, ?_⟩
  · rw [mX5_comesIntoSet, kfill (n := 16) (by omega), e1, mX5_ask, g1, g2, iI_add]
    exact x1
  · rcases x3 with ⟨rfl, rfl, x⟩ | ⟨rfl, x⟩
    · have y := hs.keep x
      exact ⟨y.1, Or.inl rfl, y.2⟩
    · have y := hs.more x
      exact ⟨y.1, Or.inr rfl, y.2⟩
theorem left_go {c : Nat} (hc : c < 30) {F : F1} (hE : 0 ≤ E ∧ E ≤ 120) (hPU : ∀ p : Nat, p < 16 → 0 ≤ PU p ∧ PU p ≤ 9) (hT : HB (T c)) (hF : EQ16 F (T c)) : ∀ (d p m : Nat) (HL : F1), p + d = 16 → d < m → ∃ HL' : F1, mX5_reckonHoursLeft_L3 (iI (c : Int)) (iI E) (iF PU) (iF F) m (iI (p : Int)) (iF HL) = some (iF HL') ∧ OUT c HL HL' ∧ (∀ p' : Nat, p' < p → HL' (16 * c + p') = HL (16 * c + p')) ∧ ∀ p' : Nat, p ≤ p' → p' < 16 → HL' (16 * c + p') = hlO T PU E c p'
  | 0, p, 0, _, _, hm => absurd hm (Nat.not_lt_zero _)
  | 0, p, m + 1, HL, hi, _ => by
    refine ⟨HL, ?_, OUT.rf c HL, fun _ _ => rfl, fun p' h1 h2 => by omega⟩
    rw [mX5_reckonHoursLeft_L3, if_pos ((iI_le (by omega) (by omega) (by omega) (by omega)).mpr (by omega))]
  | d + 1, p, 0, _, _, hm => absurd hm (Nat.not_lt_zero _)
  | d + 1, p, m + 1, HL, hi, hm => by
    have hp : p < 16 := by omega
    have hpp : (p : Int).toNat = p := by omega
    have ep := hPU p hp
    have et := hT p hp
    have ef := hF p hp
    obtain ⟨HL', x1, x2, x3, x4⟩ := left_go hc hE hPU hT hF d (p + 1) m (upI HL (16 * c + p) (hlO T PU E c p)) (by omega) (by omega)
    have a1 : mX9_at 16 (iI (p : Int)) (iF PU) = iI (PU p) := by rw [at_iI (by omega) (by omega) (by omega), at_in (by omega) (by omega), hpp]
    have a2 : mX0_firstIn (iI (p : Int)) (iF F) = iI (T c p) := by rw [mX0_firstIn, at_iI (by omega) (by omega) (by omega), at_in (by omega) (by omega), hpp, ef]
    have g : ∀ v : Int, mX9_put 480 (iI (c : Int) * iI 16 + iI (p : Int)) (iI v) (iF HL) = iF (upI HL (16 * c + p) v) := fun v => by
      rw [iI_mul, iI_add, pu_iI (by omega) (by omega) (by omega), pu_in (by omega) (by omega), show ((c : Int) * 16 + (p : Int)).toNat = 16 * c + p by omega]
    refine ⟨HL', ?_, fun j hj => ?_, fun p' hp' => ?_, fun p' h1 h2 => ?_⟩
    · rw [mX5_reckonHoursLeft_L3, if_neg (fun k => by have := (iI_le (by omega) (by omega) (by omega) (by omega)).mp k; omega), a1, a2, iI_sub, iI_add, g]
      unfold hlO at x1
      by_cases b : PU p ≤ 0
      · rw [if_pos ((iI_le0 (by omega) (by omega)).mpr b)]
        rw [if_pos b] at x1
        exact x1
      · rw [if_neg (fun y => b ((iI_le0 (by omega) (by omega)).mp y))]
        rw [if_neg b] at x1
        by_cases b2 : 30 < E - T c p
        · rw [if_pos ((iI_lt (by omega) (by omega) (by omega) (by omega)).mpr b2), g]
          rw [if_pos b2] at x1
          exact x1
        · rw [if_neg (fun y => b2 ((iI_lt (by omega) (by omega) (by omega) (by omega)).mp y)), g]
          rw [if_neg b2] at x1
          exact x1
    · rw [x2 j hj, upI_n (by omega)]
    · rw [x3 p' (by omega), upI_n (by omega)]
    · by_cases e : p' = p
      · subst e; rw [x3 p' (by omega), upI_s]
      · exact x4 p' (by omega) h2
end P5
