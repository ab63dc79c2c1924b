/-! PUSHED: the class, car after car -/
section P4
variable {T : Nat → F1} {PU : F1} {E : Int} {N : Nat} {w M : F1}
theorem move_go (hg : GV T PU E N) {k : Nat} {D : Nat → Prop} {q W : F1} {L : Nat} (h : BF T PU E N M k D q L W) (hW : W k = -1) : ∀ (n i v m : Nat) (w0 M0 : F1) (p b : Nat), i < n → i < L → v + i < 30 → i + 1 < m → RE E w0 M0 → p < 16 → b < 30 → 0 ≤ E - 1 - b → CS T PU E N M q M0 i (120 * (p : Int) + (E - 1 - b)) →
      ∃ w' M' : F1, mX5_moveOn_L8 (iF W) m (iI (q i)) (iI (30 * (p : Int) + b)) (iI (v : Int)) (iF w0) = some (iF w') ∧ RE E w' M' ∧ DNE T PU E N M k M' := by
  intro n
  induction n with
  | zero => intro i v m w0 M0 p b hi; exact absurd hi (Nat.not_lt_zero _)
  | succ n ih =>
    intro i v m w0 M0 p b hi hL hv hm hr hp hb hE hc
    obtain ⟨m, rfl⟩ : ∃ a, m = a + 1 := ⟨m - 1, by omega⟩
    have hN := hg.1
    have r := h.rg i hL
    obtain ⟨x, ex⟩ : ∃ x : Nat, q i = (x : Int) := ⟨(q i).toNat, by omega⟩
    have hxx : (x : Int).toNat = x := by omega
    have tx : (q i).toNat = x := by omega
    have b1 : ∀ F : F1, mX9_at 30 (iI (x : Int)) (iF F) = iI (F x) := fun F => by rw [at_iI (by omega) (by omega) (by omega), at_in (by omega) (by omega), hxx]
    have g1 : mX9_put 30 (iI (x : Int)) (iI (30 * (p : Int) + b)) (iF w0) = iF (upI w0 x (30 * (p : Int) + b)) := by rw [pu_iI (by omega) (by omega) (by omega), pu_in (by omega) (by omega), hxx]
    have hr2 := hr.up x hp hb hE
    rw [ex, mX5_moveOn_L8, if_neg (fun k => by have := (iI_le (by omega) (by omega) (by omega) (by omega)).mp k; omega), if_neg (fun k => by have := (iI_eq (by omega) (by omega) (by omega) (by omega)).mp k; omega), b1, b1, g1, iI_add]
    rcases Nat.eq_zero_or_pos i with e | e
    · subst e
      have e1 := CS.last hg h hc
      rw [tx] at e1
      have q0 := h.q0
      have ek : x = k := by omega
      obtain ⟨m, rfl⟩ : ∃ a, m = a + 1 := ⟨m - 1, by omega⟩
      refine ⟨_, _, ?_, hr2, e1⟩
      rw [ek, hW, mX5_moveOn_L8]
      by_cases c : iI 30 ≤ iI ((v : Int) + 1)
      · rw [if_pos c]
      · rw [if_neg c, if_pos rfl]
    · obtain ⟨j, a1, a2, a3⟩ := CS.next hg h e hL hc
      rw [tx] at a2 a3
      have rj := h.rg j (by omega)
      have u := a3.2.1.in hg (by omega)
      obtain ⟨-, -, -, -, -, -, -, -, -, -, -, s0, -⟩ := u
      have c3 := hc.2.2.1 i (Nat.le_refl i)
      rw [tx] at c3
      rcases hr x (by omega) with ⟨y1, y2⟩ | ⟨p', b', y1, y2, y3, y4, y5⟩
      · omega
      · rw [a2, y4]
        rw [← c3, y5] at a3
        exact ih j (v + 1) m _ _ p' b' (by omega) (by omega) (by omega) (by omega) hr2 y1 y2 y3 a3
theorem JJ.all (hg : GV T PU E N) {k : Nat} (hk : k < N) (h0 : M k = -1) {HS q W : F1} {L : Nat} (h : JJ T PU E N M k HS q L W) {x : Nat} (hx : x < N) (hh : ∀ p : Nat, p < 16 → hlO T PU E x p ≤ HS p) (s : Int) (hs : UU T PU E x s) : VC E HS s := by
  obtain ⟨p, h1, e, hp, hP, ht, hE⟩ := hs
  have l := h.lt hg hk h0 hp
  have hl := hh p hp
  have t := hg.2.2.2.2 x hx p hp
  unfold hlO at hl
  rw [if_neg (by omega)] at hl
  refine ⟨p, (E - 1 - h1).toNat, hp, ?_, by omega⟩
  split at hl <;> omega
theorem set_go (hg : GV T PU E N) {k : Nat} (hk : k < N) (h0 : M k = -1) (hr : RE E w M) (hv : VM T PU E N M) (hu : ∀ c : Nat, N ≤ c → M c = -1) {HL : F1} (hHL : ∀ c : Nat, c < N → (M c ≠ -1 ∨ c = k) → ∀ p : Nat, p < 16 → HL (16 * c + p) = hlO T PU E c p) :
    ∀ (d hd m L : Nat) (HS q W : F1), hd + d = 30 → d < m → hd ≤ L → (∀ i : Nat, i < hd → ∀ s : Int, UU T PU E (q i).toNat s → VC E HS s) → JJ T PU E N M k HS q L W →
      ∃ (a : Int) (L' : Nat) (HS' q' W' w' M' : F1), mX5_comesIntoSet_L21 (iF HL) (iF PU) (iF w) (fun (v2_8 : Int32) (v3_8 : Int32) (t_queued_8 : Int32) (t_hoursSeen_8 : Nat → Int32) (t_queue_8 : Nat → Int32) (t_wantedBy_8 : Nat → Int32) => (Option.bind (mX5_moveOn (mX9_at 30 v2_8 t_queue_8) v3_8 (iF w) t_wantedBy_8) (fun o10 => some ((iI 1), t_queued_8, t_hoursSeen_8, t_queue_8, o10, t_wantedBy_8)))) m (iI (hd : Int)) (iI (L : Int)) (iF HS) (iF q) (iF W) = some (iI a, iI (L' : Int), iF HS', iF q', iF w', iF W') ∧ RE E w' M' ∧ ((a = 0 ∧ M' = M ∧ ¬ EXT T PU E N M k) ∨ (a = 1 ∧ DNE T PU E N M k M')) := by
  intro d
  induction d with
  | zero =>
    intro hd m L HS q W hi hm hL hpr hJ
    obtain ⟨m, rfl⟩ : ∃ a, m = a + 1 := ⟨m - 1, by omega⟩
    have hN := hg.1
    have hLN := hJ.2.2.1.len
    have hE1 := hg.2.2.1
    refine ⟨0, L, HS, q, W, w, M, ?_, hr, Or.inl ⟨rfl, rfl, no_ext hg hk h0 (V := VC E HS) (fun s hs => ?_) (fun s hs => ?_) (fun c hc hcv s hs => ?_)⟩⟩
    · rw [mX5_comesIntoSet_L21, if_pos ((iI_le (by omega) (by omega) (by omega) (by omega)).mpr (by omega))]
    · obtain ⟨p, b, h1, h2, h3⟩ := hs
      have y := hJ.2.1 p b h1 h2
      exact ⟨p, E - 1 - b, h3, h1, by omega, by omega, by rw [h3]; exact y.2.2⟩
    · have q0 := hJ.2.2.1.q0
      have l1 := hJ.2.2.1.l1
      refine hpr 0 (by omega) s ?_
      rw [show (q 0).toNat = k by omega]; exact hs
    · obtain ⟨i, a, b, e⟩ := hJ.2.2.1.al c hc hcv
      refine hpr i (by omega) s ?_
      rw [show (q i).toNat = c by omega]; exact hs
  | succ d ih =>
    intro hd m L HS q W hi hm hL hpr hJ
    obtain ⟨m, rfl⟩ : ∃ a, m = a + 1 := ⟨m - 1, by omega⟩
    have hN := hg.1
    have hLN := hJ.2.2.1.len
    have hE1 := hg.2.2.1
    by_cases c : L ≤ hd
    · refine ⟨0, L, HS, q, W, w, M, ?_, hr, Or.inl ⟨rfl, rfl, no_ext hg hk h0 (V := VC E HS) (fun s hs => ?_) (fun s hs => ?_) (fun c hc hcv s hs => ?_)⟩⟩
      · rw [mX5_comesIntoSet_L21, if_pos ((iI_le (by omega) (by omega) (by omega) (by omega)).mpr (by omega))]
      · obtain ⟨p, b, h1, h2, h3⟩ := hs
        have y := hJ.2.1 p b h1 h2
        exact ⟨p, E - 1 - b, h3, h1, by omega, by omega, by rw [h3]; exact y.2.2⟩
      · have q0 := hJ.2.2.1.q0
        have l1 := hJ.2.2.1.l1
        refine hpr 0 (by omega) s ?_
        rw [show (q 0).toNat = k by omega]; exact hs
      · obtain ⟨i, a, b, e⟩ := hJ.2.2.1.al c hc hcv
        refine hpr i (by omega) s ?_
        rw [show (q i).toNat = c by omega]; exact hs
    · have r := hJ.2.2.1.rg hd (by omega)
      have hkF := kF_ge
      obtain ⟨x, ex⟩ : ∃ x : Nat, q hd = (x : Int) := ⟨(q hd).toNat, by omega⟩
      have hdd : (hd : Int).toNat = hd := by omega
      have b1 : ∀ F : F1, mX9_at 30 (iI (hd : Int)) (iF F) = iI (F hd) := fun F => by rw [at_iI (by omega) (by omega) (by omega), at_in (by omega) (by omega), hdd]
      have hx : M x ≠ -1 ∨ x = k := by
        rcases Nat.eq_zero_or_pos hd with e | e
        · have q0 := hJ.2.2.1.q0
          rw [e] at ex
          exact Or.inr (by omega)
        · obtain ⟨p, b, h1, h2, h3⟩ := hJ.2.2.1.me hd e (by omega)
          have y := hJ.2.1 p b h1 h2
          rw [show (q hd).toNat = x by omega] at h3
          exact Or.inl (by omega)
      rw [mX5_comesIntoSet_L21, if_neg (fun k => by have := (iI_le (by omega) (by omega) (by omega) (by omega)).mp k; omega), if_neg (fun k => by have := (iI_le (by omega) (by omega) (by omega) (by omega)).mp k; omega), b1, ex, mX5_freeSlot]
      rcases places_go (w := w) (HL := HL) hg hk h0 hr hu (x := x) (by omega) (hHL x (by omega) hx) (hd := hd) 16 0 kF L HS q W (by omega) (by omega) (by omega) ex (fun p' hp' => absurd hp' (Nat.not_lt_zero _)) hJ with ⟨L1, HS1, q1, W1, y1, y2, y3⟩ | ⟨p1, b1', L1, HS1, q1, W1, y1, y2, y3⟩
      · have y1' : mX5_freeSlot_L2 (iI (x : Int)) (iF HL) (iF PU) (iF w) kF (iI 0) (iI (L : Int)) (iF HS) (iF q) (iF W) = some (iI (-1), iI (L1 : Int), iF HS1, iF q1, iF W1) := y1
        rw [y1']
        have y22 := y2.2.1
        obtain ⟨a, L2, HS2, q2, W2, w2, M2, z1, z2⟩ := ih (hd + 1) m L1 HS1 q1 W1 (by omega) (by omega) (by omega) (fun i hi2 s hs => by
          rw [y2.2.2.1 i (by omega)] at hs
          by_cases e : i = hd
          · subst e
            rw [show (q i).toNat = x by omega] at hs
            exact y2.1.all hg hk h0 (by omega) y3 s hs
          · obtain ⟨p, b, h1, h2, h3⟩ := hpr i (by omega) s hs
            exact ⟨p, b, h1, Int.lt_of_lt_of_le h2 (y2.2.2.2 p h1), h3⟩) y2.1
        refine ⟨a, L2, HS2, q2, W2, w2, M2, ?_, z2⟩
        simp only [Option.bind_some]
        rw [if_pos trivial, iI_add]
        exact z1
      · have y1' : mX5_freeSlot_L2 (iI (x : Int)) (iF HL) (iF PU) (iF w) kF (iI 0) (iI (L : Int)) (iF HS) (iF q) (iF W) = some (iI (30 * (p1 : Int) + b1'), iI (L1 : Int), iF HS1, iF q1, iF W1) := y1
        rw [y1']
        have y22 := y2.2.1
        have yq := y2.2.2.1 hd (by omega)
        obtain ⟨f1, f2, f3, f4, f5⟩ := y3
        have hl1 := y2.1.2.2.1.len
        obtain ⟨w', M', z1, z2, z3⟩ := move_go hg y2.1.2.2.1 y2.1.2.2.2 30 hd 0 kF w M p1 b1' (by omega) (by omega) (by omega) (by omega) hr f1 f2 f3 ⟨hv, by rw [yq, show (q hd).toNat = x by omega]; exact f4, fun _ _ => rfl, fun p h e1 e2 e3 e4 => by
          have : p = p1 := by omega
          subst this
          exact f5, fun _ => Iff.rfl⟩
        refine ⟨1, L1, HS1, q1, W1, w', M', ?_, z2, Or.inr ⟨rfl, z3⟩⟩
        simp only [Option.bind_some]
        rw [if_neg (fun k => by have := (iI_eq (by omega) (by omega) (by omega) (by omega)).mp k; omega), b1, mX5_moveOn]
        have z1' : mX5_moveOn_L8 (iF W1) kF (iI (q1 hd)) (iI (30 * (p1 : Int) + b1')) (iI 0) (iF w) = some (iF w') := z1
        rw [z1']
        rfl
end P4
