/-! PUSHED: the class -/
/-- the class' row of slots, and the slots in full -/
def RE (E : Int) (w M : F1) : Prop := ∀ c : Nat, c < 30 → (w c = -1 ∧ M c = -1) ∨ ∃ p b : Nat, p < 16 ∧ b < 30 ∧ 0 ≤ E - 1 - b ∧ w c = 30 * (p : Int) + b ∧ M c = 120 * (p : Int) + (E - 1 - b)
theorem RE.up {E : Int} {w M : F1} (h : RE E w M) (c : Nat) {p b : Nat} (hp : p < 16) (hb : b < 30) (hE : 0 ≤ E - 1 - b) : RE E (upI w c (30 * (p : Int) + b)) (upI M c (120 * (p : Int) + (E - 1 - b))) := fun d hd => by
  by_cases e : d = c
  · rw [e, upI_s, upI_s]; exact Or.inr ⟨p, b, hp, hb, hE, rfl, rfl⟩
  · rw [upI_n e, upI_n e]; exact h d hd
theorem RE.in {E : Int} {w M : F1} (h : RE E w M) (c : Nat) (hc : c < 30) : -1 ≤ w c ∧ w c < 480 := by
  rcases h c hc with ⟨a, -⟩ | ⟨p, b, h1, h2, h0, h3, -⟩ <;> omega
theorem RE.eq {E : Int} {w M : F1} (h : RE E w M) (c : Nat) (hc : c < 30) {p b : Nat} (hp : p < 16) (hb : b < 30) (hE : 0 ≤ E - 1 - b) : w c = 30 * (p : Int) + b ↔ M c = 120 * (p : Int) + (E - 1 - b) := by
  rcases h c hc with ⟨a, a2⟩ | ⟨p', b', h1, h2, h0, h3, h4⟩ <;> omega
theorem RE.no {E : Int} {w M : F1} (h : RE E w M) (c : Nat) (hc : c < 30) : w c = -1 ↔ M c = -1 := by
  rcases h c hc with ⟨a, a2⟩ | ⟨p', b', h1, h2, h0, h3, h4⟩ <;> omega
theorem many_go {w : F1} {z : Int} (hw : ∀ c : Nat, c < 30 → -1 ≤ w c ∧ w c < 480) (hz : 0 ≤ z ∧ z < 480) : ∀ (d i m : Nat), i + d = 30 → d < m → mX5_manyIn_L4 (iI z) (iF w) m (iI (cn w z i)) (iI (i : Int)) = some (iI (cn w z 30))
  | 0, i, 0, _, hm => absurd hm (Nat.not_lt_zero _)
  | 0, i, m + 1, hi, _ => by
    rw [mX5_manyIn_L4, if_pos ((iI_le (by omega) (by omega) (by omega) (by omega)).mpr (by omega)), show (30 : Nat) = i by omega]
  | d + 1, i, 0, _, hm => absurd hm (Nat.not_lt_zero _)
  | d + 1, i, m + 1, hi, hm => by
    have ih := many_go hw hz d (i + 1) m (by omega) (by omega)
    have hi2 : (i : Int).toNat = i := by omega
    have r := hw i (by omega)
    have a1 : mX9_at 30 (iI (i : Int)) (iF w) = iI (w i) := by rw [at_iI (by omega) (by omega) (by omega), at_in (by omega) (by omega), hi2]
    rw [mX5_manyIn_L4, if_neg (fun k => by have := (iI_le (by omega) (by omega) (by omega) (by omega)).mp k; omega), a1]
    rw [cn_succ] at ih
    by_cases e : w i = z
    · rw [if_pos (by rw [e]), iI_add, iI_add]
      rw [if_pos e] at ih
      exact ih
    · rw [if_neg (fun k => e ((iI_eq (by omega) (by omega) (by omega) (by omega)).mp k)), iI_add]
      rw [if_neg e, Int.add_zero] at ih
      exact ih
theorem cn_tail {w : F1} {z : Int} {N : Nat} : ∀ d : Nat, (∀ c : Nat, N ≤ c → c < N + d → w c ≠ z) → cn w z (N + d) = cn w z N
  | 0, _ => rfl
  | d + 1, h => by
    show cn w z (N + d + 1) = _
    rw [cn_succ, cn_tail d (fun c a b => h c a (by omega)), if_neg (h _ (by omega) (by omega)), Int.add_zero]
section P2
variable {T : Nat → F1} {PU : F1} {E : Int} {N : Nat} {w M : F1}
theorem many2 (hN : N ≤ 30) (hr : RE E w M) (hu : ∀ c : Nat, N ≤ c → M c = -1) {p b : Nat} (hp : p < 16) (hb : b < 30) (hE : 0 ≤ E - 1 - b) : mX5_manyIn (iI (30 * (p : Int) + b)) (iF w) = some (iI (cn M (120 * (p : Int) + (E - 1 - b)) N)) := by
  have hkF := kF_ge
  have a := many_go (w := w) (z := 30 * (p : Int) + b) (fun c hc => hr.in c hc) (by omega) 30 0 kF (by omega) (by omega)
  have e1 : cn w (30 * (p : Int) + b) 30 = cn M (120 * (p : Int) + (E - 1 - b)) N := by
    have t := cn_tail (w := w) (z := 30 * (p : Int) + b) (N := N) (30 - N) (fun c h1 h2 => fun e => by
      have := (hr.eq c (by omega) hp hb hE).mp e
      have := hu c h1
      omega)
    rw [show N + (30 - N) = 30 by omega] at t
    rw [t]
    refine sm_congr (fun c _ => ?_)
    show (if w c = 30 * (p : Int) + b then (1 : Int) else 0) = (if M c = 120 * (p : Int) + (E - 1 - b) then 1 else 0)
    by_cases x : w c = 30 * (p : Int) + b
    · rw [if_pos x, if_pos ((hr.eq c (by omega) hp hb hE).mp x)]
    · rw [if_neg x, if_neg (fun y => x ((hr.eq c (by omega) hp hb hE).mpr y))]
  rw [e1] at a
  exact a
/-- hours seen at places, as slots -/
def VC (E : Int) (HS : F1) (s : Int) : Prop := ∃ (p b : Nat), p < 16 ∧ (b : Int) < HS p ∧ s = 120 * (p : Int) + (E - 1 - b)
/-- the class' search -/
def JJ (T : Nat → F1) (PU : F1) (E : Int) (N : Nat) (M : F1) (k : Nat) (HS q : F1) (L : Nat) (W : F1) : Prop := (∀ p : Nat, p < 16 → 0 ≤ HS p ∧ HS p ≤ 30) ∧ (∀ p b : Nat, p < 16 → (b : Int) < HS p → 0 ≤ E - 1 - b ∧ 0 < PU p ∧ PU p ≤ cn M (120 * (p : Int) + (E - 1 - b)) N) ∧ BF T PU E N M k (fun d => VC E HS (M d)) q L W ∧ W k = -1
theorem JJ.lt (hg : GV T PU E N) {k : Nat} (hk : k < N) (h0 : M k = -1) {HS q W : F1} {L : Nat} (h : JJ T PU E N M k HS q L W) {p : Nat} (hp : p < 16) : HS p < 30 := by
  obtain ⟨a, b, -, -⟩ := h
  have r := a p hp
  rcases Int.lt_or_le (HS p) 30 with c | c
  · exact c
  · exfalso
    have e1 := (b p 29 hp (by omega)).1
    refine thirty (M := M) (N := N) (k := k) (x := 120 * (p : Int) + (E - 1)) hg.1 hk (fun d hd => ?_) (by omega)
    have := b p d hp (by omega)
    rw [show 120 * (p : Int) + (E - 1) - d = 120 * (p : Int) + (E - 1 - d) by omega]
    omega
theorem ask_go (hg : GV T PU E N) {k : Nat} (hk : k < N) (h0 : M k = -1) (hr : RE E w M) (hu : ∀ c : Nat, N ≤ c → M c = -1) {HS : F1} {p b : Nat} (hp : p < 16) (hb : b < 30) (hE : 0 ≤ E - 1 - b) (hn : ¬ VC E HS (120 * (p : Int) + (E - 1 - b))) {x : Int} {hd : Nat} :
    ∀ (d i m L : Nat) (q W : F1), i + d = 30 → d < m → hd < L → q hd = x → UU T PU E x.toNat (120 * (p : Int) + (E - 1 - b)) → W k = -1 → BF T PU E N M k (fun c => VC E HS (M c) ∨ (M c = 120 * (p : Int) + (E - 1 - b) ∧ c < i)) q L W →
      ∃ (L' : Nat) (q' W' : F1), mX5_askHolders_L2 (iI (30 * (p : Int) + b)) (iI x) (iF w) m (iI (i : Int)) (iI (L : Int)) (iF q) (iF W) = some (iI (L' : Int), iF q', iF W') ∧ L ≤ L' ∧ (∀ j : Nat, j < L → q' j = q j) ∧ W' k = -1 ∧ BF T PU E N M k (fun c => VC E HS (M c) ∨ M c = 120 * (p : Int) + (E - 1 - b)) q' L' W'
  | 0, i, 0, _, _, _, _, hm => absurd hm (Nat.not_lt_zero _)
  | 0, i, m + 1, L, q, W, hi, _ => fun hL hq hx hW h => by
    have hN := hg.1
    refine ⟨L, q, W, ?_, Nat.le_refl L, fun _ _ => rfl, hW, h.1, h.q0, h.rg, h.ds, fun j a c => ?_, fun d hd1 h1 => ?_, h.pa⟩
    · rw [mX5_askHolders_L2, if_pos ((iI_le (by omega) (by omega) (by omega) (by omega)).mpr (by omega))]
    · rcases h.me j a c with y | y
      · exact Or.inl y
      · exact Or.inr y.1
    · refine h.al d hd1 ?_
      rcases h1 with y | y
      · exact Or.inl y
      · exact Or.inr ⟨y, by omega⟩
  | d + 1, i, 0, _, _, _, _, hm => absurd hm (Nat.not_lt_zero _)
  | d + 1, i, m + 1, L, q, W, hi, hm => fun hL hq hx hW h => by
    have hN := hg.1
    have hLN := h.len
    have hi2 : (i : Int).toNat = i := by omega
    have hL2 : (L : Int).toNat = L := by omega
    have r := hr.in i (by omega)
    have a1 : mX9_at 30 (iI (i : Int)) (iF w) = iI (w i) := by rw [at_iI (by omega) (by omega) (by omega), at_in (by omega) (by omega), hi2]
    by_cases e : w i = 30 * (p : Int) + b
    · have e2 := (hr.eq i (by omega) hp hb hE).mp e
      have hiN : i < N := by
        rcases Nat.lt_or_ge i N with y | y
        · exact y
        · have := hu i y
          omega
      have hik : i ≠ k := fun y => by
        rw [y, h0] at e2
        omega
      have h2 := h.ask (d := i) (D' := fun c => VC E HS (M c) ∨ (M c = 120 * (p : Int) + (E - 1 - b) ∧ c < i + 1)) (P' := upI W i x) (hd' := hd) hiN hik (fun y => by
        rcases y with y | y
        · rw [e2] at y; exact hn y
        · omega) (fun c _ => by
        constructor
        · rintro (y | ⟨y, y2⟩)
          · exact Or.inl (Or.inl y)
          · by_cases y3 : c = i
            · exact Or.inr y3
            · exact Or.inl (Or.inr ⟨y, by omega⟩)
        · rintro ((y | ⟨y, y2⟩) | y)
          · exact Or.inl y
          · exact Or.inr ⟨y, by omega⟩
          · exact Or.inr ⟨by rw [y]; exact e2, by omega⟩) hL (by rw [hq, e2]; exact hx) (by rw [upI_s, hq]) (fun c _ hc => by
        refine upI_n (fun y => ?_)
        rw [y] at hc
        rcases hc with z | z
        · rw [e2] at z; exact hn z
        · omega)
      have hLN2 := h2.len
      have g1 : mX9_put 30 (iI (L : Int)) (iI (i : Int)) (iF q) = iF (upI q L (i : Int)) := by rw [pu_iI (by omega) (by omega) (by omega), pu_in (by omega) (by omega), hL2]
      have g2 : mX9_put 30 (iI (i : Int)) (iI x) (iF W) = iF (upI W i x) := by rw [pu_iI (by omega) (by omega) (by omega), pu_in (by omega) (by omega), hi2]
      obtain ⟨L', q', W', x1, x2, x3, x4, x5⟩ := ask_go (hd := hd) hg hk h0 hr hu hp hb hE hn d (i + 1) m (L + 1) (upI q L i) (upI W i x) (by omega) (by omega) (by omega) (by rw [upI_n (k := L) (j := hd) (by omega)]; exact hq) hx (by rw [upI_n (fun y => hik y.symm)]; exact hW) h2
      refine ⟨L', q', W', ?_, by omega, fun j hj => ?_, x4, x5⟩
      · rw [mX5_askHolders_L2, if_neg (fun k => by have := (iI_le (by omega) (by omega) (by omega) (by omega)).mp k; omega), a1, if_pos (by rw [e]), mX5_ask, g1, g2, iI_add]
        show mX5_askHolders_L2 _ _ _ m (iI (i : Int) + iI 1) (iI ((L : Int) + 1)) _ _ = _
        rw [iI_add]
        exact x1
      · rw [x3 j (by omega), upI_n (by omega)]
    · have ne : M i ≠ 120 * (p : Int) + (E - 1 - b) := fun y => e ((hr.eq i (by omega) hp hb hE).mpr y)
      have h2 : BF T PU E N M k (fun c => VC E HS (M c) ∨ (M c = 120 * (p : Int) + (E - 1 - b) ∧ c < i + 1)) q L W := by
        refine ⟨h.1, h.q0, h.rg, h.ds, fun j a c => ?_, fun d hd1 h1 => ?_, h.pa⟩
        · rcases h.me j a c with y | y
          · exact Or.inl y
          · exact Or.inr ⟨y.1, by omega⟩
        · refine h.al d hd1 ?_
          rcases h1 with y | y
          · exact Or.inl y
          · refine Or.inr ⟨y.1, ?_⟩
            have : d ≠ i := fun z => ne (by rw [← z]; exact y.1)
            omega
      obtain ⟨L', q', W', x1, x2, x3, x4, x5⟩ := ask_go (hd := hd) hg hk h0 hr hu hp hb hE hn d (i + 1) m L q W (by omega) (by omega) hL hq hx hW h2
      refine ⟨L', q', W', ?_, x2, x3, x4, x5⟩
      rw [mX5_askHolders_L2, if_neg (fun k => by have := (iI_le (by omega) (by omega) (by omega) (by omega)).mp k; omega), a1, if_neg (fun k => e ((iI_eq (by omega) (by omega) (by omega) (by omega)).mp k)), iI_add]
      exact x1
end P2
