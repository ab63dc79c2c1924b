/-! PUSHED: the class, all of it -/
section P6
variable {n E : Int} {N : Nat} {A B Ho BG DN CP CH PU : F1}
/-- when each car has come to each place -/
def TC (n : Int) (A B Ho BG CP CH : F1) : Nat → F1 := fun c => TT n A B Ho BG (CP c).toNat (CH c)
theorem gv_of (hv : TV n A B Ho BG) (hc : CV N CP CH) (hE : 0 ≤ E ∧ E ≤ 120) (hPU : ∀ p : Nat, p < 16 → 0 ≤ PU p ∧ PU p ≤ 9) : GV (TC n A B Ho BG CP CH) PU E N := by
  obtain ⟨c0, c1, hC⟩ := hc
  refine ⟨by omega, hE.1, hE.2, hPU, fun c h => ?_⟩
  obtain ⟨g0, g1, g2, g3⟩ := hC c (by omega)
  exact TT_hb hv ⟨g2, g3⟩
theorem push_go (hv : TV n A B Ho BG) (hc : CV N CP CH) (hE : 0 ≤ E ∧ E ≤ 120) (hPU : ∀ p : Nat, p < 16 → 0 ≤ PU p ∧ PU p ≤ 9) (hasl : Int32) : ∀ (d k m : Nat) (tq : Int32) (HL HS q w W F0 M : F1), k + d = N → d < m → RE E w M → SET (TC n A B Ho BG CP CH) PU E N k M → (∀ c : Nat, c < k → ∀ p : Nat, p < 16 → HL (16 * c + p) = hlO (TC n A B Ho BG CP CH) PU E c p) →
      ∃ (tq' : Int32) (HL' HS' q' w' W' F' M' : F1), mX5_push_L28 (iI E) hasl (iF PU) (iI n) (iF Ho) (iF A) (iF B) (iF BG) (iF DN) (iI (N : Int)) (iF CH) (iF CP) m (iI (sm (gi (TC n A B Ho BG CP CH) PU E N) k)) (iI (k : Int)) tq (iF HL) (iF HS) (iF q) (iF w) (iF W) (iF F0) = some (iI (sm (gi (TC n A B Ho BG CP CH) PU E N) N), tq', hasl, iF HL', iF HS', iF q', iF w', iF W', iF F') ∧ RE E w' M' ∧ SET (TC n A B Ho BG CP CH) PU E N N M' := by
  intro d
  have hg := gv_of hv hc hE hPU
  have hN := hg.1
  induction d with
  | zero =>
    intro k m tq HL HS q w W F0 M hi hm hr hs hh
    obtain ⟨m, rfl⟩ : ∃ a, m = a + 1 := ⟨m - 1, by omega⟩
    have e : k = N := by omega
    subst e
    refine ⟨tq, HL, HS, q, w, W, F0, M, ?_, hr, hs⟩
    rw [mX5_push_L28, if_pos ((iI_le (by omega) (by omega) (by omega) (by omega)).mpr (by omega))]
  | succ d ih =>
    intro k m tq HL HS q w W F0 M hi hm hr hs hh
    obtain ⟨m, rfl⟩ : ∃ a, m = a + 1 := ⟨m - 1, by omega⟩
    have hk : k < N := by omega
    have hkF := kF_ge
    obtain ⟨g0, g1, g2, g3⟩ := hc.2.2 k (by omega)
    obtain ⟨F', t1, t2⟩ := travel2 (DN := DN) hv (c := k) (by omega) ⟨g0, g1⟩ ⟨g2, g3⟩ F0
    obtain ⟨HL', u1, u2, -, u4⟩ := left_go (T := TC n A B Ho BG CP CH) (PU := PU) (E := E) (c := k) (by omega) hE hPU (hg.2.2.2.2 k hk) t2 16 0 kF HL (by omega) (by omega)
    have hh2 : ∀ c : Nat, c ≤ k → ∀ p : Nat, p < 16 → HL' (16 * c + p) = hlO (TC n A B Ho BG CP CH) PU E c p := fun c h p hp => by
      by_cases e : c = k
      · subst e; exact u4 p (Nat.zero_le p) hp
      · rw [u2 _ (by omega)]; exact hh c (by omega) p hp
    obtain ⟨a, L', HS', q', W', w', M', x1, x2, x3, x4, x5⟩ := comes_set hg hk hr hs hh2 HS q W
    have gk := gs_in (T := TC n A B Ho BG CP CH) (PU := PU) (E := E) (N := N) k
    have e2 : sm (gi (TC n A B Ho BG CP CH) PU E N) (k + 1) = sm (gi (TC n A B Ho BG CP CH) PU E N) k + a := by
      show sm _ k + gi _ _ _ _ k = _
      rw [x5]
    obtain ⟨tq2, HL2, HS2, q2, w2, W2, F2, M2, y1, y2⟩ := ih (k + 1) m (iI (L' : Int)) HL' HS' q' w' W' F' M' (by omega) (by omega) x2 x3 (fun c h => hh2 c (by omega))
    refine ⟨tq2, HL2, HS2, q2, w2, W2, F2, M2, ?_, y2⟩
    have u1' : mX5_reckonHoursLeft (iI (k : Int)) (iI E) (iF HL) (iF PU) (iF F') = some (iF HL') := u1
    rw [mX5_push_L28, if_neg (fun y => by have := (iI_le (by omega) (by omega) (by omega) (by omega)).mp y; omega), t1]
    simp only [Option.bind_some]
    rw [u1']
    simp only [Option.bind_some]
    rw [x1]
    simp only [Option.bind_some]
    rw [e2] at y1
    rcases x4 with rfl | rfl
    · rw [if_pos z00, iI_add]
      rw [Int.add_zero] at y1
      exact y1
    · rw [if_neg (fun y => by have := (iI_eq0 (by omega) (by omega)).mp y; omega), iI_add, iI_add]
      exact y1
theorem pushed2 {hl tq : Int} (hv : TV n A B Ho BG) (hc : CV N CP CH) (hE : 0 ≤ E ∧ E ≤ 120) (hPU : ∀ p : Nat, p < 16 → 0 ≤ PU p ∧ PU p ≤ 9) (HL HS q w W F0 : F1) :
    ∃ (tq' : Int32) (HL' HS' q' w' W' F' : F1), mX9_pushed (iI E) (iI (N : Int)) (iF F0) (iF CH) (iF CP) (iI n) (iF Ho) (iF A) (iF B) (iF BG) (iF DN) (iI tq) (iI hl) (iF HL) (iF HS) (iF PU) (iF q) (iF w) (iF W) = some (iI (sm (gi (TC n A B Ho BG CP CH) PU E N) N), iI 0, iF F', tq', iI 1, iF HL', iF HS', iF q', iF w', iF W') ∧ (∀ c : Nat, c < 30 → -1 ≤ w' c ∧ w' c < 480 ∧ (w' c ≠ -1 ↔ GS (TC n A B Ho BG CP CH) PU E N N c)) := by
  have hkF := kF_ge
  have hg := gv_of hv hc hE hPU
  have hN := hg.1
  have e1 : (fun j => if j < 30 then iI (-1) else iF w j) = iF (fun j => if j < 30 then -1 else w j) := funext fun j => by
    show (if j < 30 then iI (-1) else iI (w j)) = iI (if j < 30 then -1 else w j)
    split <;> rfl
  have hr : RE E (fun j => if j < 30 then -1 else w j) (fun _ => -1) := fun c h => Or.inl ⟨if_pos h, rfl⟩
  have hs : SET (TC n A B Ho BG CP CH) PU E N 0 (fun _ => -1) := by
    refine ⟨⟨fun c _ => Or.inl rfl, fun p h hp h0 h1 => ?_⟩, fun c => ⟨fun y => absurd rfl y, fun y => False.elim y⟩⟩
    have : cn (fun _ => -1) (120 * (p : Int) + h) N = 0 := by
      unfold cn
      rw [show (fun _ : Nat => if (-1 : Int) = 120 * (p : Int) + h then (1 : Int) else 0) = fun _ => 0 from funext fun _ => if_neg (by omega)]
      exact sm_zero N
    have := hPU p hp
    omega
  obtain ⟨tq', HL', HS', q', w', W', F', M', x1, x2, x3⟩ := push_go (DN := DN) (PU := PU) hv hc hE hPU (iI 1) N 0 kF (iI tq) HL HS q _ W F0 _ (by omega) (by omega) hr hs (fun c h => absurd h (Nat.not_lt_zero _))
  have gk := gs_in (T := TC n A B Ho BG CP CH) (PU := PU) (E := E) (N := N) N
  refine ⟨tq', HL', HS', q', w', W', F', ?_, fun c h => ?_⟩
  · have x1' : mX5_push (iI E) (iI tq) (iI hl) (iF HL) (iF HS) (iF PU) (iF q) (iF w) (iF W) (iI n) (iF Ho) (iF A) (iF B) (iF BG) (iF DN) (iI (N : Int)) (iF F0) (iF CH) (iF CP) = some (iI (sm (gi (TC n A B Ho BG CP CH) PU E N) N), tq', iI 1, iF HL', iF HS', iF q', iF w', iF W', iF F') := by
      rw [mX5_push, if_neg (fun y => (hour0 (by omega) (by omega)).mp y hE), kfill (n := 30) (by omega), e1]
      exact x1
    rw [mX9_pushed, x1']
    simp only [Option.bind_some]
    rw [ans_iI (by omega) (by omega)]
    simp only [Option.bind_some]
    rw [show min (sm (gi (TC n A B Ho BG CP CH) PU E N) N) 0 = 0 by omega]
  · have a := x2.in c h
    refine ⟨a.1, a.2, ?_⟩
    rw [← x3.2 c]
    have := x2.no c h
    constructor
    · intro y z; exact y (this.mpr z)
    · intro y z; exact y (this.mp z)
end P6
