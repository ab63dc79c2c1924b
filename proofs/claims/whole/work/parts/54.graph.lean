/-! SOONEST IN A GRAPH: rounds that let everything take one step more come to rest -/
theorem pigeon : ∀ (N j : Nat) (f : Nat → Nat), (∀ i : Nat, i ≤ j → f i < N) → (∀ i k : Nat, i < k → k ≤ j → f i ≠ f k) → j < N
  | 0, j, f, h, _ => absurd (h 0 (Nat.zero_le j)) (Nat.not_lt_zero _)
  | N + 1, j, f, h, hn => by
    by_cases hx : ∃ i : Nat, i ≤ j ∧ f i = N
    · obtain ⟨i0, hi, e⟩ := hx
      rcases Nat.eq_zero_or_pos j with hj | hj
      · omega
      · have h2 := pigeon N (j - 1) (fun i => if i < i0 then f i else f (i + 1)) (fun i hi2 => by
          show (if i < i0 then f i else f (i + 1)) < N
          by_cases c : i < i0
          · rw [if_pos c]
            have a := h i (by omega)
            have b := hn i i0 c hi
            omega
          · rw [if_neg c]
            have a := h (i + 1) (by omega)
            have b := hn i0 (i + 1) (by omega) (by omega)
            omega) (fun i k hik hk => by
          show (if i < i0 then f i else f (i + 1)) ≠ (if k < i0 then f k else f (k + 1))
          by_cases c : i < i0
          · rw [if_pos c]
            by_cases d : k < i0
            · rw [if_pos d]; exact hn i k hik (by omega)
            · rw [if_neg d]; exact hn i (k + 1) (by omega) (by omega)
          · rw [if_neg c, if_neg (by omega)]
            exact hn (i + 1) (k + 1) (by omega) (by omega))
        omega
    · have h2 := pigeon N j f (fun i hi => by
        have a := h i hi
        have b : f i ≠ N := fun e => hx ⟨i, hi, e⟩
        omega) hn
      omega
section JAC
variable {N : Nat} {J : Nat → F1} {E : Nat → Nat → (Int → Int) → Prop}
theorem jac_down (ha : ∀ (k v : Nat), J (k + 1) v ≤ J k v) (v : Nat) : ∀ (d k : Nat), J (k + d) v ≤ J k v
  | 0, k => Int.le_refl _
  | d + 1, k => Int.le_trans (ha (k + d) v) (jac_down ha v d k)
/-- what changes in a round was come to by what changed in the round ahead -/
theorem jac_chain (ha : ∀ (k v : Nat), J (k + 1) v ≤ J k v) (hb : ∀ (k v : Nat), v < N → J (k + 1) v = J k v ∨ ∃ (u : Nat) (g : Int → Int), u < N ∧ E u v g ∧ J (k + 1) v = g (J k u)) (hc : ∀ (k u v : Nat) (g : Int → Int), u < N → v < N → E u v g → J (k + 1) v ≤ g (J k u)) (hd : ∀ (k u v : Nat) (g : Int → Int), E u v g → J k u ≤ g (J k u)) :
    ∀ (j v : Nat), v < N → (j = 0 ∨ J j v < J (j - 1) v) → ∃ f : Nat → Nat, f j = v ∧ (∀ i : Nat, i ≤ j → f i < N) ∧ (∀ i : Nat, 1 ≤ i → i ≤ j → J i (f i) < J (i - 1) (f i)) ∧ ∀ i : Nat, i < j → J i (f i) ≤ J (i + 1) (f (i + 1))
  | 0, v, hv, _ => ⟨fun _ => v, rfl, fun _ _ => hv, fun i h1 h2 => by omega, fun i h => by omega⟩
  | j + 1, v, hv, h => by
    have h : J (j + 1) v < J j v := by
      rcases h with h | h
      · omega
      · exact h
    obtain ⟨u, g, hu, he, e⟩ := (hb j v hv).resolve_left (by omega)
    have hch : j = 0 ∨ J j u < J (j - 1) u := by
      rcases Nat.eq_zero_or_pos j with hj | hj
      · exact Or.inl hj
      · refine Or.inr ?_
        obtain ⟨k, rfl⟩ : ∃ k, j = k + 1 := ⟨j - 1, by omega⟩
        have h1 := hc k u v g hu hv he
        have h2 := ha k u
        show J (k + 1) u < J k u
        rcases Int.lt_or_eq_of_le h2 with h3 | h3
        · exact h3
        · rw [← h3] at h1
          omega
    obtain ⟨f, f1, f2, f3, f4⟩ := jac_chain ha hb hc hd j u hu hch
    have hge := hd j u v g he
    refine ⟨fun i => if i = j + 1 then v else f i, by simp, fun i hi => ?_, fun i h1 h2 => ?_, fun i hi => ?_⟩
    · show (if i = j + 1 then v else f i) < N
      by_cases c : i = j + 1
      · rw [if_pos c]; exact hv
      · rw [if_neg c]; exact f2 i (by omega)
    · show J i (if i = j + 1 then v else f i) < J (i - 1) (if i = j + 1 then v else f i)
      by_cases c : i = j + 1
      · rw [if_pos c, c]; exact h
      · rw [if_neg c]; exact f3 i h1 (by omega)
    · show J i (if i = j + 1 then v else f i) ≤ J (i + 1) (if i + 1 = j + 1 then v else f (i + 1))
      rw [if_neg (by omega)]
      by_cases c : i = j
      · subst c
        rw [if_pos rfl, f1, e]
        exact hge
      · rw [if_neg (by omega)]
        exact f4 i (by omega)
theorem jac_mono {f : Nat → Nat} {j : Nat} (h : ∀ i : Nat, i < j → J i (f i) ≤ J (i + 1) (f (i + 1))) : ∀ (d i : Nat), i + d ≤ j → J i (f i) ≤ J (i + d) (f (i + d))
  | 0, i, _ => Int.le_refl _
  | d + 1, i, hd => Int.le_trans (jac_mono h d i (by omega)) (h (i + d) (by omega))
/-- so no round from the N-th on changes anything -/
theorem jac_rest (ha : ∀ (k v : Nat), J (k + 1) v ≤ J k v) (hb : ∀ (k v : Nat), v < N → J (k + 1) v = J k v ∨ ∃ (u : Nat) (g : Int → Int), u < N ∧ E u v g ∧ J (k + 1) v = g (J k u)) (hc : ∀ (k u v : Nat) (g : Int → Int), u < N → v < N → E u v g → J (k + 1) v ≤ g (J k u)) (hd : ∀ (k u v : Nat) (g : Int → Int), E u v g → J k u ≤ g (J k u)) {j v : Nat} (hv : v < N) (hj : N ≤ j + 1) : J (j + 1) v = J j v := by
  rcases Int.lt_or_eq_of_le (ha j v) with h | h
  · exfalso
    obtain ⟨f, f1, f2, f3, f4⟩ := jac_chain ha hb hc hd (j + 1) v hv (Or.inr h)
    have := pigeon N (j + 1) f f2 (fun i k hik hk e => by
      have h1 := f3 k (by omega) hk
      have h2 := jac_mono f4 (k - i) i (by omega)
      have h3 := jac_down ha (f k) (k - 1 - i) i
      rw [show i + (k - i) = k by omega] at h2
      rw [show i + (k - 1 - i) = k - 1 by omega] at h3
      rw [e] at h2
      omega)
    omega
  · exact h
end JAC
