/-! WAY: how few steps, as the class reckons -/
section WF
variable {n tr : Int} {A B Ho BG DN : F1}
/-- the soonest at the goal's two stands -/
def gm (S : F1) (to : Nat) : Int := if S (to + 16) < S to then S (to + 16) else S to
theorem gm_iI {R S : F1} (h : R32 R S) (hS : HR S) {to : Nat} (ht : to < 16) : mX7_soonestIn (iI (to : Int)) (iF R) = iI (gm S to) := by
  have e1 := h to (by omega)
  have e2 := h (to + 16) (by omega)
  have c1 : cl to = 2 * to := by unfold cl; omega
  have c2 : cl (to + 16) = 2 * to + 1 := by unfold cl; omega
  rw [c1] at e1
  rw [c2] at e2
  have r1 := hS to (by omega)
  have r2 := hS (to + 16) (by omega)
  have t1 : (2 * (to : Int)).toNat = 2 * to := by omega
  have t2 : (2 * (to : Int) + 1).toNat = 2 * to + 1 := by omega
  have b1 : mX9_at 32 (iI (2 * (to : Int))) (iF R) = iI (S to) := by rw [at_iI (by omega) (by omega) (by omega), at_in (by omega) (by omega), t1, e1]
  have b2 : mX9_at 32 (iI (2 * (to : Int) + 1)) (iF R) = iI (S (to + 16)) := by rw [at_iI (by omega) (by omega) (by omega), at_in (by omega) (by omega), t2, e2]
  rw [mX7_soonestIn, iI_mul, iI_add, b1, b2, gm]
  by_cases c : S (to + 16) < S to
  · rw [if_pos ((iI_lt (by omega) (by omega) (by omega) (by omega)).mpr c), if_pos c]
  · rw [if_neg (fun k => c ((iI_lt (by omega) (by omega) (by omega) (by omega)).mp k)), if_neg c]
theorem gm_or (S : F1) (to : Nat) : gm S to = S to ∨ gm S to = S (to + 16) := by
  unfold gm
  split
  · exact Or.inr rfl
  · exact Or.inl rfl
theorem gm_le (S : F1) (to : Nat) : gm S to ≤ S to ∧ gm S to ≤ S (to + 16) := by
  unfold gm
  split <;> omega
theorem gm_mono {S S' : F1} {to : Nat} (h : ∀ v : Nat, S v ≤ S' v) : gm S to ≤ gm S' to := by
  have h1 := gm_le S to
  have h2 := h to
  have h3 := h (to + 16)
  rcases gm_or S' to with e | e <;> omega
theorem gm_eq {S S' : F1} {to : Nat} (ht : to < 16) (h : ∀ v : Nat, v < 32 → S v = S' v) : gm S to = gm S' to := by
  unfold gm
  rw [h to (by omega), h (to + 16) (by omega)]
theorem gm_hr {S : F1} {to : Nat} (ht : to < 16) (h : HR S) : (0 ≤ gm S to ∧ gm S to ≤ 120) ∨ gm S to = 1000000 := by
  rcases gm_or S to with e | e
  · rw [e]; exact h to (by omega)
  · rw [e]; exact h (to + 16) (by omega)
theorem mnY_hr {X : Nat → F1} (hX : ∀ k : Nat, k ≤ 32 → HR (X k)) {k : Nat} (hk : k ≤ 32) : HR (mnY X k) := fun v hv => by
  obtain ⟨j, hj, e⟩ := mnY_ex X v k
  rw [e]
  exact hX j (by omega) v hv
/-- what is known after k rounds: the soonest, and after how many rounds it stood first -/
def FS (X : Nat → F1) (to k : Nat) (f c : Int) : Prop := c = gm (mnY X k) to ∧ ((c = 1000000 ∧ f = -1) ∨ (c ≤ 120 ∧ 0 ≤ f ∧ f ≤ 31 ∧ gm (mnY X f.toNat) to = c ∧ ∀ j : Nat, (j : Int) < f → c < gm (mnY X j) to))
theorem fewest_go (hw : WV n tr A B Ho BG DN) {X : Nat → F1} {to : Nat} (ht : to < 16) (hX : ∀ k : Nat, k < 32 → MINR n tr A B Ho BG DN (fun _ => 1000000) (X k) (X (k + 1))) (hr : ∀ k : Nat, k ≤ 32 → HR (X k)) : ∀ (d k m : Nat) (R G : F1) (f c w : Int), k + d = 31 → d < m → R32 R (mnY X k) → FS X to k f c → (w = 0 ∨ w = 1) → (w = 0 → ∀ v : Nat, v < 32 → mnY X 32 v = mnY X k v) → ∃ (f' c' : Int) (G' R' : F1), mX7_fewestSteps_L50 (iI (to : Int)) (iI tr) (iI n) (iF Ho) (iF A) (iF B) (iF BG) (iF DN) m (iI f) (iI w) (iI ((k + 1 : Nat) : Int)) (iI c) (iF G) (iF R) = some (iI f', iI c', iF G', iF R') ∧ FS X to 32 f' c' := by
  have hb : ∀ k v : Nat, k ≤ 32 → v < 32 → X k v ≤ 1000000 := fun k v hk hv => by have := hr k hk v hv; omega
  have n0 : iI 0 = 0 := rfl
  have n1 : ¬ iI 1 = 0 := by decide
  -- at rest
  have stop : ∀ (k : Nat) (f c : Int), FS X to k f c → (∀ v : Nat, v < 32 → mnY X 32 v = mnY X k v) → FS X to 32 f c := fun k f c h e => ⟨by rw [gm_eq ht e]; exact h.1, h.2⟩
  intro d
  induction d with
  | zero =>
    intro k m R G f c w hi hm hR h hw0 hw1
    obtain ⟨m, rfl⟩ : ∃ a, m = a + 1 := ⟨m - 1, by omega⟩
    have e : k = 31 := by omega
    subst e
    refine ⟨f, c, G, R, ?_, stop 31 f c h (mnY_rest hw hX hb)⟩
    rw [mX7_fewestSteps_L50, if_pos ((iI_le (by omega) (by omega) (by omega) (by omega)).mpr (by omega))]
  | succ d ih =>
    intro k m R G f c w hi hm hR h hw0 hw1
    obtain ⟨m, rfl⟩ : ∃ a, m = a + 1 := ⟨m - 1, by omega⟩
    rcases hw0 with rfl | rfl
    · refine ⟨f, c, G, R, ?_, stop k f c h (hw1 rfl)⟩
      rw [mX7_fewestSteps_L50, if_neg (fun k => by have := (iI_le (by omega) (by omega) (by omega) (by omega)).mp k; omega), if_pos n0]
    · obtain ⟨w2, G2, R2, S2, x1, x2, x3, x4, x5, x6⟩ := more_go hw G hR (mnY_hr hr (k := k) (by omega))
      have es : ∀ v : Nat, v < 32 → S2 v = mnY X (k + 1) v := x4.eq (mnY_step hX hb (k := k) (by omega)) (fun _ _ => rfl) (fun _ _ => rfl)
      have hR2 : R32 R2 (mnY X (k + 1)) := fun v hv => (x2 v hv).trans (es v hv)
      have rest : w2 = 0 → ∀ v : Nat, v < 32 → mnY X 32 v = mnY X (k + 1) v := fun hw2 => by
        have e0 : ∀ v : Nat, v < 32 → mnY X (k + 1) v = mnY X k v := fun v hv => (es v hv).symm.trans (x6 hw2 v hv)
        have go : ∀ d : Nat, k + 1 + d ≤ 32 → ∀ v : Nat, v < 32 → mnY X (k + 1 + d) v = mnY X k v := by
          intro d
          induction d with
          | zero => intro _; exact e0
          | succ d ih2 =>
            intro hd v hv
            have a1 := (mnY_step hX hb (k := k + 1 + d) (by omega)).eq (mnY_step hX hb (k := k) (by omega)) (ih2 (by omega)) (ih2 (by omega)) v hv
            exact a1.trans (e0 v hv)
        intro v hv
        have := go (32 - (k + 1)) (by omega) v hv
        rw [show k + 1 + (32 - (k + 1)) = 32 by omega] at this
        rw [this, e0 v hv]
      have gY := gm_iI hR2 (mnY_hr hr (k := k + 1) (by omega)) ht
      have rg := gm_hr ht (mnY_hr hr (k := k + 1) (by omega))
      have rk := gm_hr ht (mnY_hr hr (k := k) (by omega))
      have dn : gm (mnY X (k + 1)) to ≤ gm (mnY X k) to := gm_mono (mnY_dn X k)
      have hc := h.1
      have cont : ∀ f2 c2 : Int, FS X to (k + 1) f2 c2 → ∃ (f' c' : Int) (G' R' : F1), mX7_fewestSteps_L50 (iI (to : Int)) (iI tr) (iI n) (iF Ho) (iF A) (iF B) (iF BG) (iF DN) m (iI f2) (iI w2) (iI ((k + 1 : Nat) : Int) + iI 1) (iI c2) (iF G2) (iF R2) = some (iI f', iI c', iF G', iF R') ∧ FS X to 32 f' c' := fun f2 c2 h2 => by
        rw [iI_add]
        exact ih (k + 1) m R2 G2 f2 c2 w2 (by omega) (by omega) hR2 h2 x5 rest
      rw [mX7_fewestSteps_L50, if_neg (fun k => by have := (iI_le (by omega) (by omega) (by omega) (by omega)).mp k; omega), if_neg n1, x1]
      simp only [Option.bind_some]
      rw [gY]
      by_cases q : c ≤ gm (mnY X (k + 1)) to
      · rw [if_pos ((iI_le (by omega) (by omega) (by omega) (by omega)).mpr q)]
        exact cont f c ⟨by omega, h.2⟩
      · rw [if_neg (fun y => q ((iI_le (by omega) (by omega) (by omega) (by omega)).mp y))]
        refine cont ((k + 1 : Nat) : Int) (gm (mnY X (k + 1)) to) ⟨rfl, Or.inr ⟨by omega, by omega, by omega, by rw [Int.toNat_natCast], fun j hj => ?_⟩⟩
        have h1 : gm (mnY X k) to ≤ gm (mnY X j) to := gm_mono fun v => by
          have := mnY_mono X v (k - j) j
          rw [show j + (k - j) = k by omega] at this
          exact this
        omega
/-- the start -/
theorem fewest2 (hw : WV n tr A B Ho BG DN) {X : Nat → F1} {to st : Nat} {h : Int} (ht : to < 16) (hst : st < 32) (hh : 0 ≤ h ∧ h ≤ 120) (hX : ∀ k : Nat, k < 32 → MINR n tr A B Ho BG DN (fun _ => 1000000) (X k) (X (k + 1))) (hr : ∀ k : Nat, k ≤ 32 → HR (X k)) (h0 : ∀ v : Nat, v < 32 → X 0 v = if v = st then h else 1000000) (G R : F1) : ∃ (f c : Int) (G' R' : F1), mX7_fewestSteps (iI ((cl st : Nat) : Int)) (iI h) (iI (to : Int)) (iI tr) (iF G) (iF R) (iI n) (iF Ho) (iF A) (iF B) (iF BG) (iF DN) = some (iI f, iI c, iF G', iF R') ∧ FS X to 32 f c := by
  have hkF := kF_ge
  have hc := cl_lt hst
  have tc : ((cl st : Nat) : Int).toNat = cl st := by omega
  have e1 : (fun j => if j < 32 then iI 1000000 else iF R j) = iF (fun j => if j < 32 then 1000000 else R j) := funext fun j => by
    show (if j < 32 then iI 1000000 else iI (R j)) = iI (if j < 32 then 1000000 else R j)
    split <;> rfl
  have e2 : mX9_put 32 (iI ((cl st : Nat) : Int)) (iI h) (iF (fun j => if j < 32 then 1000000 else R j)) = iF (upI (fun j => if j < 32 then 1000000 else R j) (cl st) h) := by rw [pu_iI (by omega) (by omega) (by omega), pu_in (by omega) (by omega), tc]
  have r0 : R32 (upI (fun j => if j < 32 then 1000000 else R j) (cl st) h) (mnY X 0) := fun v hv => by
    show _ = X 0 v
    rw [h0 v hv]
    by_cases e : v = st
    · subst e; rw [upI_s, if_pos rfl]
    · rw [if_neg e, upI_n (fun y => e (cl_inj hv hst y))]
      exact if_pos (cl_lt hv)
  have hr0 : HR (mnY X 0) := mnY_hr hr (by omega)
  have gY := gm_iI r0 hr0 ht
  have rg := gm_hr ht hr0
  rw [mX7_fewestSteps, kfill (n := 32) (by omega), e1]
  simp only [Option.bind_some]
  rw [e2, gY]
  by_cases q : gm (mnY X 0) to = 1000000
  · rw [if_pos (by rw [q])]
    exact fewest_go hw ht hX hr 31 0 kF _ G (-1) _ 1 (by omega) (by omega) r0 ⟨rfl, Or.inl ⟨q, rfl⟩⟩ (Or.inr rfl) (fun y => by omega)
  · rw [if_neg (fun y => q ((iI_eq (by omega) (by omega) (by omega) (by omega)).mp y))]
    exact fewest_go hw ht hX hr 31 0 kF _ G 0 _ 1 (by omega) (by omega) r0 ⟨rfl, Or.inr ⟨by omega, by omega, by omega, rfl, fun j hj => by omega⟩⟩ (Or.inr rfl) (fun y => by omega)
end WF
