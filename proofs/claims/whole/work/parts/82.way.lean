/-! WAY: steps, and what is soonest -/
section WY
/-- the stand behind e, from the stand v (place + 16 times the train) -/
def BH (n : Int) (A B : F1) (e v : Nat) : Int := if e = 30 then (((v + 16) % 32 : Nat) : Int) else if (e : Int) < n then (if A e = ((v % 16 : Nat) : Int) then ((v - v % 16 : Nat) : Int) + B e else if B e = ((v % 16 : Nat) : Int) then ((v - v % 16 : Nat) : Int) + A e else -1) else -1
/-- when one comes over e -/
def AW (tr : Int) (Ho BG DN : F1) (e v : Nat) (t : Int) : Int := if e = 30 then t + tr else if 16 ≤ v then (if DN e ≤ t then t + Ho e else DN e + Ho e) else (if BG e < t + Ho e then 1000000 else t + Ho e)
def AR (tr : Int) (Ho BG DN : F1) (e v : Nat) (t : Int) : Int := if AW tr Ho BG DN e v t ≤ 120 then AW tr Ho BG DN e v t else 1000000
/-- one step more: from Y, with base -/
def MINR (n tr : Int) (A B Ho BG DN : F1) (base Y S : F1) : Prop := (∀ b : Nat, b < 32 → S b ≤ base b) ∧ (∀ a e b : Nat, a < 32 → e ≤ 30 → b < 32 → BH n A B e a = (b : Int) → S b ≤ AR tr Ho BG DN e a (Y a)) ∧ ∀ b : Nat, b < 32 → S b = base b ∨ ∃ a e : Nat, a < 32 ∧ e ≤ 30 ∧ BH n A B e a = (b : Int) ∧ S b = AR tr Ho BG DN e a (Y a)
/-- lines and times are in order -/
def WV (n tr : Int) (A B Ho BG DN : F1) : Prop := 0 ≤ n ∧ n ≤ 30 ∧ 0 ≤ tr ∧ tr ≤ 12 ∧ (∀ l : Nat, (l : Int) < n → 0 ≤ A l ∧ A l ≤ 15 ∧ 0 ≤ B l ∧ B l ≤ 15 ∧ A l ≠ B l ∧ 1 ≤ Ho l ∧ Ho l ≤ 12) ∧ ∀ l : Nat, l < 30 → 0 ≤ BG l ∧ BG l ≤ 1000000 ∧ 0 ≤ DN l ∧ DN l ≤ 1000000
variable {n tr : Int} {A B Ho BG DN : F1}
theorem BH_v {e a : Nat} {b : Nat} (h : BH n A B e a = (b : Int)) : e = 30 ∨ (e : Int) < n := by
  unfold BH at h
  by_cases h1 : e = 30
  · exact Or.inl h1
  · rw [if_neg h1] at h
    by_cases h2 : (e : Int) < n
    · exact Or.inr h2
    · rw [if_neg h2] at h; omega
theorem AW_30 {v : Nat} {t : Int} : AW tr Ho BG DN 30 v t = t + tr := if_pos rfl
theorem AW_new {e v : Nat} {t : Int} (he : e ≠ 30) (hv : 16 ≤ v) : AW tr Ho BG DN e v t = if DN e ≤ t then t + Ho e else DN e + Ho e := by rw [AW, if_neg he, if_pos hv]
theorem AW_old {e v : Nat} {t : Int} (he : e ≠ 30) (hv : ¬ 16 ≤ v) : AW tr Ho BG DN e v t = if BG e < t + Ho e then 1000000 else t + Ho e := by rw [AW, if_neg he, if_neg hv]
theorem AR_mono {e v : Nat} {s t : Int} (h : s ≤ t) : AR tr Ho BG DN e v s ≤ AR tr Ho BG DN e v t := by
  unfold AR
  by_cases c : AW tr Ho BG DN e v t ≤ 120
  · have k : AW tr Ho BG DN e v s ≤ AW tr Ho BG DN e v t := by
      by_cases h1 : e = 30
      · subst h1; rw [AW_30, AW_30]; omega
      · by_cases h2 : 16 ≤ v
        · rw [AW_new h1 h2, AW_new h1 h2]
          split <;> split <;> omega
        · rw [AW_old h1 h2] at c
          rw [AW_old h1 h2, AW_old h1 h2]
          split at c
          · omega
          · rw [if_neg (by omega), if_neg (by omega)]; omega
    rw [if_pos c, if_pos (by omega)]; exact k
  · rw [if_neg c]
    split <;> omega
theorem AR_up {e v : Nat} {t : Int} : AR tr Ho BG DN e v t ≤ 1000000 := by
  unfold AR
  split <;> omega
theorem AW_ge {e v : Nat} {t : Int} (h0 : 0 ≤ tr) (hH : ∀ l : Nat, (l : Int) < n → 1 ≤ Ho l) (he : e = 30 ∨ (e : Int) < n) (ht : t ≤ 1000000) : t ≤ AW tr Ho BG DN e v t := by
  by_cases h1 : e = 30
  · subst h1; rw [AW_30]; omega
  · have h3 := hH e (he.resolve_left h1)
    by_cases h2 : 16 ≤ v
    · rw [AW_new h1 h2]
      split <;> omega
    · rw [AW_old h1 h2]
      split <;> omega
theorem AR_ge {e v : Nat} {t : Int} (h0 : 0 ≤ tr) (hH : ∀ l : Nat, (l : Int) < n → 1 ≤ Ho l) (he : e = 30 ∨ (e : Int) < n) (ht : t ≤ 1000000) : t ≤ AR tr Ho BG DN e v t := by
  have := AW_ge (BG := BG) (DN := DN) (v := v) h0 hH he ht
  unfold AR
  split <;> omega
theorem AR_never {e v : Nat} (h0 : 0 ≤ tr) (hH : ∀ l : Nat, (l : Int) < n → 1 ≤ Ho l) (he : e = 30 ∨ (e : Int) < n) : AR tr Ho BG DN e v 1000000 = 1000000 := by
  have h1 := AR_ge (BG := BG) (DN := DN) (v := v) h0 hH he (Int.le_refl 1000000)
  have h2 := AR_up (tr := tr) (Ho := Ho) (BG := BG) (DN := DN) (e := e) (v := v) (t := 1000000)
  omega
theorem WV.ho (h : WV n tr A B Ho BG DN) : ∀ l : Nat, (l : Int) < n → 1 ≤ Ho l := fun l hl => (h.2.2.2.2.1 l hl).2.2.2.2.2.1
theorem MINR.le {base Y S base' Y' S' : F1} (h : MINR n tr A B Ho BG DN base Y S) (h2 : MINR n tr A B Ho BG DN base' Y' S') (hb : ∀ v : Nat, v < 32 → base v ≤ base' v) (hy : ∀ v : Nat, v < 32 → Y v ≤ Y' v) : ∀ v : Nat, v < 32 → S v ≤ S' v := by
  intro v hv
  rcases h2.2.2 v hv with e | ⟨a, e, ha, he, hh, e2⟩
  · rw [e]; exact Int.le_trans (h.1 v hv) (hb v hv)
  · rw [e2]; exact Int.le_trans (h.2.1 a e v ha he hv hh) (AR_mono (hy a ha))
theorem MINR.eq {base Y S base' Y' S' : F1} (h : MINR n tr A B Ho BG DN base Y S) (h2 : MINR n tr A B Ho BG DN base' Y' S') (hb : ∀ v : Nat, v < 32 → base v = base' v) (hy : ∀ v : Nat, v < 32 → Y v = Y' v) : ∀ v : Nat, v < 32 → S v = S' v := fun v hv =>
  Int.le_antisymm (h.le h2 (fun v hv => Int.le_of_eq (hb v hv)) (fun v hv => Int.le_of_eq (hy v hv)) v hv) (h2.le h (fun v hv => Int.le_of_eq (hb v hv).symm) (fun v hv => Int.le_of_eq (hy v hv).symm) v hv)
/-- soonest after at most k steps, of what is soonest after exactly j -/
def mnY (X : Nat → F1) : Nat → F1
  | 0 => X 0
  | k + 1 => fun v => if X (k + 1) v < mnY X k v then X (k + 1) v else mnY X k v
theorem mnY_dn (X : Nat → F1) (k v : Nat) : mnY X (k + 1) v ≤ mnY X k v := by
  show (if X (k + 1) v < mnY X k v then X (k + 1) v else mnY X k v) ≤ mnY X k v
  split <;> omega
theorem mnY_nw (X : Nat → F1) (k v : Nat) : mnY X (k + 1) v ≤ X (k + 1) v := by
  show (if X (k + 1) v < mnY X k v then X (k + 1) v else mnY X k v) ≤ X (k + 1) v
  split <;> omega
theorem mnY_or (X : Nat → F1) (k v : Nat) : mnY X (k + 1) v = mnY X k v ∨ mnY X (k + 1) v = X (k + 1) v := by
  show (if X (k + 1) v < mnY X k v then X (k + 1) v else mnY X k v) = mnY X k v ∨ (if X (k + 1) v < mnY X k v then X (k + 1) v else mnY X k v) = X (k + 1) v
  split
  · exact Or.inr rfl
  · exact Or.inl rfl
theorem mnY_le (X : Nat → F1) (v : Nat) : ∀ (k j : Nat), j ≤ k → mnY X k v ≤ X j v
  | 0, j, h => by
    rw [show j = 0 by omega]
    exact Int.le_refl _
  | k + 1, j, h => by
    by_cases c : j = k + 1
    · subst c; exact mnY_nw X k v
    · exact Int.le_trans (mnY_dn X k v) (mnY_le X v k j (by omega))
theorem mnY_ex (X : Nat → F1) (v : Nat) : ∀ k : Nat, ∃ j : Nat, j ≤ k ∧ mnY X k v = X j v
  | 0 => ⟨0, Nat.le_refl 0, rfl⟩
  | k + 1 => by
    rcases mnY_or X k v with h | h
    · obtain ⟨j, hj, e⟩ := mnY_ex X v k
      exact ⟨j, by omega, h.trans e⟩
    · exact ⟨k + 1, Nat.le_refl _, h⟩
theorem mnY_mono (X : Nat → F1) (v : Nat) : ∀ (d k : Nat), mnY X (k + d) v ≤ mnY X k v
  | 0, k => Int.le_refl _
  | d + 1, k => Int.le_trans (mnY_dn X (k + d) v) (mnY_mono X v d k)
theorem mnY_step {X : Nat → F1} {K : Nat} (hX : ∀ k : Nat, k < K → MINR n tr A B Ho BG DN (fun _ => 1000000) (X k) (X (k + 1))) (hb : ∀ k v : Nat, k ≤ K → v < 32 → X k v ≤ 1000000) {k : Nat} (hk : k < K) : MINR n tr A B Ho BG DN (mnY X k) (mnY X k) (mnY X (k + 1)) := by
  have c2 : ∀ a e b : Nat, a < 32 → e ≤ 30 → b < 32 → BH n A B e a = (b : Int) → mnY X (k + 1) b ≤ AR tr Ho BG DN e a (mnY X k a) := fun a e b ha he hv hh => by
    obtain ⟨j, hj, ej⟩ := mnY_ex X a k
    rw [ej]
    exact Int.le_trans (mnY_le X b (k + 1) (j + 1) (by omega)) ((hX j (by omega)).2.1 a e b ha he hv hh)
  refine ⟨fun b _ => mnY_dn X k b, c2, fun b hv => ?_⟩
  rcases mnY_or X k b with h | h
  · exact Or.inl h
  · rcases (hX k hk).2.2 b hv with e | ⟨a, e, ha, he, hh, e2⟩
    · refine Or.inl ?_
      have h1 := mnY_dn X k b
      have h2 := mnY_le X b k 0 (by omega)
      have h3 := hb 0 b (by omega) hv
      have e9 : X (k + 1) b = 1000000 := e
      omega
    · refine Or.inr ⟨a, e, ha, he, hh, ?_⟩
      have h1 := c2 a e b ha he hv hh
      have h2 := AR_mono (tr := tr) (Ho := Ho) (BG := BG) (DN := DN) (e := e) (v := a) (mnY_le X a k k (Nat.le_refl k))
      omega
/-- a round under way: the edges of D are done -/
def MINP (n tr : Int) (A B Ho BG DN : F1) (D : Nat → Nat → Prop) (base Y S : F1) : Prop := (∀ b : Nat, b < 32 → S b ≤ base b) ∧ (∀ a e b : Nat, a < 32 → e ≤ 30 → b < 32 → BH n A B e a = (b : Int) → D a e → S b ≤ AR tr Ho BG DN e a (Y a)) ∧ ∀ b : Nat, b < 32 → S b = base b ∨ ∃ a e : Nat, a < 32 ∧ e ≤ 30 ∧ BH n A B e a = (b : Int) ∧ S b = AR tr Ho BG DN e a (Y a)
theorem MINP.start (D : Nat → Nat → Prop) (hD : ∀ a e : Nat, a < 32 → e ≤ 30 → ¬ D a e) (base Y : F1) : MINP n tr A B Ho BG DN D base Y base := ⟨fun _ _ => Int.le_refl _, fun a e b ha he _ _ h => absurd h (hD a e ha he), fun _ _ => Or.inl rfl⟩
theorem MINP.done {D : Nat → Nat → Prop} {base Y S : F1} (h : MINP n tr A B Ho BG DN D base Y S) (hD : ∀ a e b : Nat, a < 32 → e ≤ 30 → b < 32 → BH n A B e a = (b : Int) → D a e) : MINR n tr A B Ho BG DN base Y S := ⟨h.1, fun a e b ha he hb hh => h.2.1 a e b ha he hb hh (hD a e b ha he hb hh), h.2.2⟩
/-- one edge more -/
def rlx (tr : Int) (Ho BG DN : F1) (e a b : Nat) (Y S : F1) : F1 := if AR tr Ho BG DN e a (Y a) < S b then upI S b (AR tr Ho BG DN e a (Y a)) else S
theorem MINP.step {D D' : Nat → Nat → Prop} {base Y S : F1} (h : MINP n tr A B Ho BG DN D base Y S) {a e b : Nat} (ha : a < 32) (he : e ≤ 30) (hb : b < 32) (hh : BH n A B e a = (b : Int)) (hD : ∀ a' e' b' : Nat, a' < 32 → e' ≤ 30 → b' < 32 → BH n A B e' a' = (b' : Int) → D' a' e' → D a' e' ∨ (a' = a ∧ e' = e)) : MINP n tr A B Ho BG DN D' base Y (rlx tr Ho BG DN e a b Y S) := by
  obtain ⟨h1, h2, h3⟩ := h
  have le : ∀ v : Nat, rlx tr Ho BG DN e a b Y S v ≤ S v := fun v => by
    unfold rlx
    split
    · rename_i c
      by_cases x : v = b
      · subst x; rw [upI_s]; omega
      · rw [upI_n x]; exact Int.le_refl _
    · exact Int.le_refl _
  refine ⟨fun v hv => Int.le_trans (le v) (h1 v hv), fun a' e' b' ha' he' hb' hh' hd => ?_, fun v hv => ?_⟩
  · rcases hD a' e' b' ha' he' hb' hh' hd with y | ⟨rfl, rfl⟩
    · exact Int.le_trans (le b') (h2 a' e' b' ha' he' hb' hh' y)
    · have x : b' = b := by omega
      subst x
      unfold rlx
      split
      · rw [upI_s]; exact Int.le_refl _
      · omega
  · unfold rlx
    split
    · by_cases x : v = b
      · subst x
        rw [upI_s]
        exact Or.inr ⟨a, e, ha, he, hh, rfl⟩
      · rw [upI_n x]; exact h3 v hv
    · exact h3 v hv
/-- an edge over which nobody comes in time -/
theorem MINP.skip {D D' : Nat → Nat → Prop} {base Y S : F1} (h : MINP n tr A B Ho BG DN D base Y S) (h9 : ∀ b : Nat, b < 32 → base b ≤ 1000000) (hD : ∀ a e b : Nat, a < 32 → e ≤ 30 → b < 32 → BH n A B e a = (b : Int) → D' a e → D a e ∨ AR tr Ho BG DN e a (Y a) = 1000000) : MINP n tr A B Ho BG DN D' base Y S := ⟨h.1, fun a e b ha he hb hh hd => by
  rcases hD a e b ha he hb hh hd with y | y
  · exact h.2.1 a e b ha he hb hh y
  · rw [y]; exact Int.le_trans (h.1 b hb) (h9 b hb), h.2.2⟩
end WY
section JACB
variable {N K : Nat} {J : Nat → F1} {E : Nat → Nat → (Int → Int) → Prop}
theorem jb_down (ha : ∀ (k v : Nat), k < K → J (k + 1) v ≤ J k v) (v : Nat) : ∀ (d k : Nat), k + d ≤ K → J (k + d) v ≤ J k v
  | 0, k, _ => Int.le_refl _
  | d + 1, k, h => Int.le_trans (ha (k + d) v (by omega)) (jb_down ha v d k (by omega))
theorem jb_chain (ha : ∀ (k v : Nat), k < K → J (k + 1) v ≤ J k v) (hb : ∀ (k v : Nat), k < K → v < N → J (k + 1) v = J k v ∨ ∃ (u : Nat) (g : Int → Int), u < N ∧ E u v g ∧ J (k + 1) v = g (J k u)) (hc : ∀ (k u v : Nat) (g : Int → Int), k < K → u < N → v < N → E u v g → J (k + 1) v ≤ g (J k u)) (hd : ∀ (k u v : Nat) (g : Int → Int), k ≤ K → u < N → E u v g → J k u ≤ g (J k u)) :
    ∀ (j v : Nat), j ≤ K → v < N → (j = 0 ∨ J j v < J (j - 1) v) → ∃ f : Nat → Nat, f j = v ∧ (∀ i : Nat, i ≤ j → f i < N) ∧ (∀ i : Nat, 1 ≤ i → i ≤ j → J i (f i) < J (i - 1) (f i)) ∧ ∀ i : Nat, i < j → J i (f i) ≤ J (i + 1) (f (i + 1))
  | 0, v, _, hv, _ => ⟨fun _ => v, rfl, fun _ _ => hv, fun i h1 h2 => by omega, fun i h => by omega⟩
  | j + 1, v, hK, hv, h => by
    have h : J (j + 1) v < J j v := by
      rcases h with h | h
      · omega
      · exact h
    obtain ⟨u, g, hu, he, e⟩ := (hb j v (by omega) hv).resolve_left (by omega)
    have hch : j = 0 ∨ J j u < J (j - 1) u := by
      rcases Nat.eq_zero_or_pos j with hj | hj
      · exact Or.inl hj
      · refine Or.inr ?_
        obtain ⟨k, rfl⟩ : ∃ k, j = k + 1 := ⟨j - 1, by omega⟩
        have h1 := hc k u v g (by omega) hu hv he
        have h2 := ha k u (by omega)
        show J (k + 1) u < J k u
        rcases Int.lt_or_eq_of_le h2 with h3 | h3
        · exact h3
        · rw [← h3] at h1
          omega
    obtain ⟨f, f1, f2, f3, f4⟩ := jb_chain ha hb hc hd j u (by omega) hu hch
    have hge := hd j u v g (by omega) hu he
    refine ⟨fun i => if i = j + 1 then v else f i, by simp, fun i hi => ?_, fun i h1 h2 => ?_, fun i hi => ?_⟩
    · show (if i = j + 1 then v else f i) < N
      by_cases c : i = j + 1
      · rw [if_pos c]; exact hv
      · rw [if_neg c]; exact f2 i (by omega)
    · show J i (if i = j + 1 then v else f i) < J (i - 1) (if i = j + 1 then v else f i)
      by_cases c : i = j + 1
      · rw [if_pos c, c]; exact h
      · rw [if_neg c]; exact f3 i h1 (by omega)
    · show J i (if i = j + 1 then v else f i) ≤ J (i + 1) (if i + 1 = j + 1 then v else f (i + 1))
      rw [if_neg (by omega)]
      by_cases c : i = j
      · subst c
        rw [if_pos rfl, f1, e]
        exact hge
      · rw [if_neg (by omega)]
        exact f4 i (by omega)
theorem jb_rest (ha : ∀ (k v : Nat), k < K → J (k + 1) v ≤ J k v) (hb : ∀ (k v : Nat), k < K → v < N → J (k + 1) v = J k v ∨ ∃ (u : Nat) (g : Int → Int), u < N ∧ E u v g ∧ J (k + 1) v = g (J k u)) (hc : ∀ (k u v : Nat) (g : Int → Int), k < K → u < N → v < N → E u v g → J (k + 1) v ≤ g (J k u)) (hd : ∀ (k u v : Nat) (g : Int → Int), k ≤ K → u < N → E u v g → J k u ≤ g (J k u)) {j v : Nat} (hv : v < N) (hj : N ≤ j + 1) (hK : j + 1 ≤ K) : J (j + 1) v = J j v := by
  rcases Int.lt_or_eq_of_le (ha j v (by omega)) with h | h
  · exfalso
    obtain ⟨f, f1, f2, f3, f4⟩ := jb_chain ha hb hc hd (j + 1) v hK hv (Or.inr h)
    have := pigeon N (j + 1) f f2 (fun i k hik hk e => by
      have h1 := f3 k (by omega) hk
      have h2 := jac_mono f4 (k - i) i (by omega)
      have h3 := jb_down ha (f k) (k - 1 - i) i (by omega)
      rw [show i + (k - i) = k by omega] at h2
      rw [show i + (k - 1 - i) = k - 1 by omega] at h3
      rw [e] at h2
      omega)
    omega
  · exact h
end JACB
section WY2
variable {n tr : Int} {A B Ho BG DN : F1}
theorem mnY_rest (hw : WV n tr A B Ho BG DN) {X : Nat → F1} (hX : ∀ k : Nat, k < 32 → MINR n tr A B Ho BG DN (fun _ => 1000000) (X k) (X (k + 1))) (hb : ∀ k v : Nat, k ≤ 32 → v < 32 → X k v ≤ 1000000) : ∀ v : Nat, v < 32 → mnY X 32 v = mnY X 31 v := by
  intro v hv
  refine jb_rest (N := 32) (K := 32) (E := fun u v g => ∃ e : Nat, e ≤ 30 ∧ BH n A B e u = (v : Int) ∧ g = fun t => AR tr Ho BG DN e u t) (fun k v _ => mnY_dn X k v) (fun k v hk hv => ?_) (fun k u v g hk hu hv h => ?_) (fun k u v g hk hu h => ?_) hv (by omega) (by omega)
  · rcases (mnY_step hX hb hk).2.2 v hv with h | ⟨a, e, ha, he, hh, e2⟩
    · exact Or.inl h
    · exact Or.inr ⟨a, fun t => AR tr Ho BG DN e a t, ha, ⟨e, he, hh, rfl⟩, e2⟩
  · obtain ⟨e, he, hh, rfl⟩ := h
    exact (mnY_step hX hb hk).2.1 u e v hu he hv hh
  · obtain ⟨e, he, hh, rfl⟩ := h
    refine AR_ge hw.2.2.1 hw.ho (BH_v hh) ?_
    have h1 := mnY_le X u k 0 (by omega)
    have h2 := hb 0 u (by omega) hu
    omega
end WY2
