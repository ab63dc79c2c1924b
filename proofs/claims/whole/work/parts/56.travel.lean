/-! TRAVEL OVER OLD LINES -/
def gO (Ho BG : F1) (l : Nat) (t : Int) : Int := if t + Ho l ≤ BG l ∧ t + Ho l ≤ 120 then t + Ho l else 1000000
def rel (Ho BG : F1) (l a b : Nat) (F : F1) : F1 := if gO Ho BG l (F a) < F b then upI F b (gO Ho BG l (F a)) else F
def ls2 (A B Ho BG : F1) (l : Nat) (F : F1) : F1 := rel Ho BG l (B l).toNat (A l).toNat (rel Ho BG l (A l).toNat (B l).toNat F)
def rdd (A B Ho BG : F1) : Nat → Nat → F1 → F1
  | 0, _, F => F
  | d + 1, i, F => rdd A B Ho BG d (i + 1) (ls2 A B Ho BG i F)
def itr (f : F1 → F1) : Nat → F1 → F1
  | 0, F => F
  | k + 1, F => f (itr f k F)
theorem itr_in (f : F1 → F1) : ∀ (k : Nat) (F : F1), itr f k (f F) = itr f (k + 1) F
  | 0, _ => rfl
  | k + 1, F => by
    show f (itr f k (f F)) = f (itr f (k + 1) F)
    rw [itr_in f k F]
theorem itr_fix (f : F1 → F1) {F : F1} (h : f F = F) : ∀ k : Nat, itr f k F = F
  | 0 => rfl
  | k + 1 => by
    show f (itr f k F) = F
    rw [itr_fix f h k, h]
def FR (F : F1) : Prop := ∀ v : Nat, v < 16 → 0 ≤ F v ∧ F v ≤ 1000000
/-- what travel asks of lines -/
def TV (n : Int) (A B Ho BG : F1) : Prop := 0 ≤ n ∧ n ≤ 30 ∧ ∀ l : Nat, (l : Int) < n → 0 ≤ A l ∧ A l ≤ 15 ∧ 0 ≤ B l ∧ B l ≤ 15 ∧ A l ≠ B l ∧ 1 ≤ Ho l ∧ Ho l ≤ 12 ∧ 0 ≤ BG l ∧ BG l ≤ 1000000
section TR
variable {n : Int} {A B Ho BG : F1}
theorem gO_ge {l : Nat} {t : Int} (hh : 1 ≤ Ho l) (ht : t ≤ 1000000) : t ≤ gO Ho BG l t ∧ (gO Ho BG l t < 1000000 → t < gO Ho BG l t) := by
  unfold gO
  split <;> omega
theorem gO_in {l : Nat} {t : Int} (hh : 1 ≤ Ho l) (ht : 0 ≤ t) : 0 ≤ gO Ho BG l t ∧ gO Ho BG l t ≤ 1000000 := by
  unfold gO
  split <;> omega
theorem gO_mono {l : Nat} {t t' : Int} (h : t ≤ t') (ht : t ≤ 1000000) : gO Ho BG l t ≤ gO Ho BG l t' := by
  unfold gO
  split <;> split <;> omega
theorem rel_le {l a b : Nat} {F : F1} (v : Nat) : rel Ho BG l a b F v ≤ F v := by
  unfold rel
  split
  · by_cases h : v = b
    · subst h; rw [upI_s]; omega
    · rw [upI_n h]; exact Int.le_refl _
  · exact Int.le_refl _
theorem rel_b {l a b : Nat} {F : F1} : rel Ho BG l a b F b ≤ gO Ho BG l (F a) := by
  unfold rel
  split
  · rw [upI_s]; exact Int.le_refl _
  · omega
theorem rel_fr {l a b : Nat} {F : F1} (hh : 1 ≤ Ho l) (ha : a < 16) (h : FR F) : FR (rel Ho BG l a b F) := by
  intro v hv
  unfold rel
  split
  · by_cases e : v = b
    · subst e; rw [upI_s]; exact gO_in hh (h a ha).1
    · rw [upI_n e]; exact h v hv
  · exact h v hv
theorem ls2_le {l : Nat} {F : F1} (v : Nat) : ls2 A B Ho BG l F v ≤ F v := Int.le_trans (rel_le v) (rel_le v)
theorem ls2_fr {l : Nat} {F : F1} (hv : TV n A B Ho BG) (hl : (l : Int) < n) (h : FR F) : FR (ls2 A B Ho BG l F) := by
  obtain ⟨a0, a1, b0, b1, ne, h0, h1, -, -⟩ := hv.2.2 l hl
  exact rel_fr h0 (by omega) (rel_fr h0 (by omega) h)
theorem rdd_le : ∀ (d i : Nat) (F : F1) (v : Nat), rdd A B Ho BG d i F v ≤ F v
  | 0, _, _, _ => Int.le_refl _
  | d + 1, i, F, v => Int.le_trans (rdd_le d (i + 1) _ v) (ls2_le v)
theorem rdd_fr (hv : TV n A B Ho BG) : ∀ (d i : Nat) (F : F1), (i : Int) + d ≤ n → FR F → FR (rdd A B Ho BG d i F)
  | 0, _, _, _, h => h
  | d + 1, i, F, hi, h => rdd_fr hv d (i + 1) _ (by omega) (ls2_fr hv (by omega) h)
theorem rdd_edge (hv : TV n A B Ho BG) : ∀ (d i l : Nat) (F : F1), (i : Int) + d ≤ n → i ≤ l → l < i + d → FR F → rdd A B Ho BG d i F (B l).toNat ≤ gO Ho BG l (F (A l).toNat) ∧ rdd A B Ho BG d i F (A l).toNat ≤ gO Ho BG l (F (B l).toNat)
  | 0, i, l, F, _, h1, h2, _ => by omega
  | d + 1, i, l, F, hi, h1, h2, hF => by
    obtain ⟨a0, a1, b0, b1, ne, h0, h3, -, -⟩ := hv.2.2 l (by omega)
    by_cases e : l = i
    · subst e
      have q1 := rdd_le (A := A) (B := B) (Ho := Ho) (BG := BG) d (l + 1) (ls2 A B Ho BG l F)
      constructor
      · refine Int.le_trans (q1 _) (Int.le_trans (rel_le _) rel_b)
      · refine Int.le_trans (q1 _) (Int.le_trans rel_b ?_)
        exact gO_mono (rel_le _) ((rel_fr h0 (by omega) hF) _ (by omega)).2
    · have hF2 := ls2_fr hv (l := i) (by omega) hF
      have ih := rdd_edge hv d (i + 1) l (ls2 A B Ho BG i F) (by omega) (by omega) (by omega) hF2
      exact ⟨Int.le_trans ih.1 (gO_mono (ls2_le _) (hF2 _ (by omega)).2), Int.le_trans ih.2 (gO_mono (ls2_le _) (hF2 _ (by omega)).2)⟩
/-- what can't be bettered stays below -/
theorem rel_low {l a b : Nat} {F G : F1} (hG : G b ≤ gO Ho BG l (G a)) (hGa : G a ≤ 1000000) (h : ∀ v : Nat, G v ≤ F v) (v : Nat) : G v ≤ rel Ho BG l a b F v := by
  unfold rel
  split
  · by_cases e : v = b
    · subst e; rw [upI_s]; exact Int.le_trans hG (gO_mono (h a) hGa)
    · rw [upI_n e]; exact h v
  · exact h v
theorem rdd_low {G : F1} (hn : ∀ l : Nat, (l : Int) < n → G (B l).toNat ≤ gO Ho BG l (G (A l).toNat) ∧ G (A l).toNat ≤ gO Ho BG l (G (B l).toNat)) (hG : ∀ v : Nat, G v ≤ 1000000) : ∀ (d i : Nat) (F : F1), (i : Int) + d ≤ n → (∀ v : Nat, G v ≤ F v) → ∀ v : Nat, G v ≤ rdd A B Ho BG d i F v
  | 0, _, _, _, h => h
  | d + 1, i, F, hi, h => rdd_low hn hG d (i + 1) _ (by omega) (fun v => rel_low (hn i (by omega)).2 (hG _) (rel_low (hn i (by omega)).1 (hG _) h) v)
/-- a round from row to row -/
def jv (A B Ho BG : F1) (G : F1) (v : Nat) : Nat → Int
  | 0 => G v
  | i + 1 => min (min (jv A B Ho BG G v i) (if (B i).toNat = v then gO Ho BG i (G (A i).toNat) else 1000000)) (if (A i).toNat = v then gO Ho BG i (G (B i).toNat) else 1000000)
theorem jv_le (G : F1) (v : Nat) : ∀ m : Nat, jv A B Ho BG G v m ≤ G v
  | 0 => Int.le_refl _
  | m + 1 => by
    have := jv_le G v m
    show min (min _ _) _ ≤ _
    omega
theorem jv_edge (G : F1) (v : Nat) : ∀ (m l : Nat), l < m → ((B l).toNat = v → jv A B Ho BG G v m ≤ gO Ho BG l (G (A l).toNat)) ∧ ((A l).toNat = v → jv A B Ho BG G v m ≤ gO Ho BG l (G (B l).toNat))
  | 0, l, h => absurd h (Nat.not_lt_zero _)
  | m + 1, l, h => by
    by_cases e : l = m
    · subst e
      constructor
      · intro hb
        show min (min _ (if (B l).toNat = v then _ else _)) _ ≤ _
        rw [if_pos hb]
        omega
      · intro hb
        show min (min _ _) (if (A l).toNat = v then _ else _) ≤ _
        rw [if_pos hb]
        omega
    · have ih := jv_edge G v m l (by omega)
      constructor
      · intro hb
        have := ih.1 hb
        show min (min _ _) _ ≤ _
        omega
      · intro hb
        have := ih.2 hb
        show min (min _ _) _ ≤ _
        omega
theorem jv_low (G : F1) (v : Nat) {x : Int} (h0 : x ≤ G v) (h9 : x ≤ 1000000) : ∀ m : Nat, (∀ l : Nat, l < m → ((B l).toNat = v → x ≤ gO Ho BG l (G (A l).toNat)) ∧ ((A l).toNat = v → x ≤ gO Ho BG l (G (B l).toNat))) → x ≤ jv A B Ho BG G v m
  | 0, _ => h0
  | m + 1, h => by
    have ih := jv_low G v h0 h9 m (fun l hl => h l (by omega))
    have hm := h m (by omega)
    show x ≤ min (min _ (if (B m).toNat = v then _ else _)) (if (A m).toNat = v then _ else _)
    by_cases c : (B m).toNat = v
    · have := hm.1 c
      rw [if_pos c]
      by_cases d : (A m).toNat = v
      · have := hm.2 d
        rw [if_pos d]; omega
      · rw [if_neg d]; omega
    · rw [if_neg c]
      by_cases d : (A m).toNat = v
      · have := hm.2 d
        rw [if_pos d]; omega
      · rw [if_neg d]; omega
theorem jv_from (G : F1) (v : Nat) (hG : G v ≤ 1000000) : ∀ m : Nat, jv A B Ho BG G v m = G v ∨ ∃ l : Nat, l < m ∧ (((B l).toNat = v ∧ jv A B Ho BG G v m = gO Ho BG l (G (A l).toNat)) ∨ ((A l).toNat = v ∧ jv A B Ho BG G v m = gO Ho BG l (G (B l).toNat)))
  | 0 => Or.inl rfl
  | m + 1 => by
    have ih := jv_from G v hG m
    have hle := jv_le (A := A) (B := B) (Ho := Ho) (BG := BG) G v m
    have key : jv A B Ho BG G v (m + 1) = jv A B Ho BG G v m ∨ ((B m).toNat = v ∧ jv A B Ho BG G v (m + 1) = gO Ho BG m (G (A m).toNat)) ∨ ((A m).toNat = v ∧ jv A B Ho BG G v (m + 1) = gO Ho BG m (G (B m).toNat)) := by
      show min (min _ (if (B m).toNat = v then _ else _)) (if (A m).toNat = v then _ else _) = _ ∨ (_ ∧ min (min _ (if (B m).toNat = v then _ else _)) (if (A m).toNat = v then _ else _) = _) ∨ (_ ∧ min (min _ (if (B m).toNat = v then _ else _)) (if (A m).toNat = v then _ else _) = _)
      by_cases c : (B m).toNat = v
      · by_cases d : (A m).toNat = v
        · rw [if_pos c, if_pos d]
          omega
        · rw [if_pos c, if_neg d]
          omega
      · by_cases d : (A m).toNat = v
        · rw [if_neg c, if_pos d]
          omega
        · rw [if_neg c, if_neg d]
          omega
    rcases key with k | ⟨k1, k2⟩ | ⟨k1, k2⟩
    · rw [k]
      rcases ih with ih | ⟨l, hl, h⟩
      · exact Or.inl ih
      · exact Or.inr ⟨l, by omega, h⟩
    · exact Or.inr ⟨m, by omega, Or.inl ⟨k1, k2⟩⟩
    · exact Or.inr ⟨m, by omega, Or.inr ⟨k1, k2⟩⟩
/-- sixteen places: fifteen rounds are enough -/
theorem travel_rest (hv : TV n A B Ho BG) {F : F1} (hF : ∀ v : Nat, 0 ≤ F v ∧ F v ≤ 1000000) (v : Nat) (hv16 : v < 16) : rdd A B Ho BG n.toNat 0 (itr (rdd A B Ho BG n.toNat 0) 15 F) v = itr (rdd A B Ho BG n.toNat 0) 15 F v := by
  have n0 := hv.1
  have hJ : ∀ (k v : Nat), 0 ≤ itr (fun G u => jv A B Ho BG G u n.toNat) k F v ∧ itr (fun G u => jv A B Ho BG G u n.toNat) k F v ≤ 1000000 := by
    intro k
    induction k with
    | zero => exact hF
    | succ k ih =>
      intro v
      constructor
      · exact jv_low _ v (ih v).1 (by omega) _ (fun l hl => by
          obtain ⟨-, -, -, -, -, h0, -, -, -⟩ := hv.2.2 l (by omega)
          exact ⟨fun _ => (gO_in h0 (ih _).1).1, fun _ => (gO_in h0 (ih _).1).1⟩)
      · exact Int.le_trans (jv_le _ v _) (ih v).2
  have hrest : ∀ v : Nat, v < 16 → itr (fun G u => jv A B Ho BG G u n.toNat) (15 + 1) F v = itr (fun G u => jv A B Ho BG G u n.toNat) 15 F v := by
    intro v hv2
    refine jac_rest (N := 16) (J := fun k => itr (fun G u => jv A B Ho BG G u n.toNat) k F) (E := fun u w g => ∃ l : Nat, (l : Int) < n ∧ g = gO Ho BG l ∧ ((w = (B l).toNat ∧ u = (A l).toNat) ∨ (w = (A l).toNat ∧ u = (B l).toNat))) ?_ ?_ ?_ ?_ hv2 (by omega)
    · exact fun k v => jv_le _ v _
    · intro k w hw
      rcases jv_from (A := A) (B := B) (Ho := Ho) (BG := BG) (itr (fun G u => jv A B Ho BG G u n.toNat) k F) w (hJ k w).2 n.toNat with h | ⟨l, hl, h⟩
      · exact Or.inl h
      · obtain ⟨a0, a1, b0, b1, -⟩ := hv.2.2 l (by omega)
        rcases h with ⟨h1, h2⟩ | ⟨h1, h2⟩
        · exact Or.inr ⟨(A l).toNat, gO Ho BG l, by omega, ⟨l, by omega, rfl, Or.inl ⟨h1.symm, rfl⟩⟩, h2⟩
        · exact Or.inr ⟨(B l).toNat, gO Ho BG l, by omega, ⟨l, by omega, rfl, Or.inr ⟨h1.symm, rfl⟩⟩, h2⟩
    · rintro k u w g hu hw ⟨l, hl, rfl, ⟨rfl, rfl⟩ | ⟨rfl, rfl⟩⟩
      · exact (jv_edge _ _ n.toNat l (by omega)).1 rfl
      · exact (jv_edge _ _ n.toNat l (by omega)).2 rfl
    · rintro k u w g ⟨l, hl, rfl, -⟩
      obtain ⟨-, -, -, -, -, h0, -⟩ := hv.2.2 l hl
      exact (gO_ge h0 (hJ k u).2).1
  -- the class' rounds lie between
  have hG : ∀ l : Nat, (l : Int) < n → itr (fun G u => jv A B Ho BG G u n.toNat) 15 F (B l).toNat ≤ gO Ho BG l (itr (fun G u => jv A B Ho BG G u n.toNat) 15 F (A l).toNat) ∧ itr (fun G u => jv A B Ho BG G u n.toNat) 15 F (A l).toNat ≤ gO Ho BG l (itr (fun G u => jv A B Ho BG G u n.toNat) 15 F (B l).toNat) := by
    intro l hl
    obtain ⟨a0, a1, b0, b1, -⟩ := hv.2.2 l hl
    have e := jv_edge (A := A) (B := B) (Ho := Ho) (BG := BG) (itr (fun G u => jv A B Ho BG G u n.toNat) 15 F)
    constructor
    · rw [← hrest (B l).toNat (by omega)]
      exact (e _ n.toNat l (by omega)).1 rfl
    · rw [← hrest (A l).toNat (by omega)]
      exact (e _ n.toNat l (by omega)).2 rfl
  have hdn : ∀ (k v : Nat), itr (fun G u => jv A B Ho BG G u n.toNat) k F v ≤ F v := by
    intro k
    induction k with
    | zero => exact fun v => Int.le_refl _
    | succ k ih => exact fun v => Int.le_trans (jv_le _ v _) (ih v)
  have hlow : ∀ (k v : Nat), itr (fun G u => jv A B Ho BG G u n.toNat) 15 F v ≤ itr (rdd A B Ho BG n.toNat 0) k F v := by
    intro k
    induction k with
    | zero => exact hdn 15
    | succ k ih => exact rdd_low hG (fun v => (hJ 15 v).2) n.toNat 0 _ (by omega) ih
  have hfr : ∀ k : Nat, FR (itr (rdd A B Ho BG n.toNat 0) k F) := by
    intro k
    induction k with
    | zero => exact fun v _ => hF v
    | succ k ih => exact rdd_fr hv n.toNat 0 _ (by omega) ih
  have hhi : ∀ (k v : Nat), v < 16 → itr (rdd A B Ho BG n.toNat 0) k F v ≤ itr (fun G u => jv A B Ho BG G u n.toNat) k F v := by
    intro k
    induction k with
    | zero => exact fun v _ => Int.le_refl _
    | succ k ih =>
      intro v hv2
      refine jv_low _ v (Int.le_trans (rdd_le _ _ _ _) (ih v hv2)) ((hfr (k + 1)) v hv2).2 _ (fun l hl => ?_)
      obtain ⟨a0, a1, b0, b1, -⟩ := hv.2.2 l (by omega)
      have e := rdd_edge hv n.toNat 0 l (itr (rdd A B Ho BG n.toNat 0) k F) (by omega) (by omega) (by omega) (hfr k)
      constructor
      · intro hb
        rw [← hb]
        exact Int.le_trans e.1 (gO_mono (ih _ (by omega)) ((hfr k) _ (by omega)).2)
      · intro hb
        rw [← hb]
        exact Int.le_trans e.2 (gO_mono (ih _ (by omega)) ((hfr k) _ (by omega)).2)
  have q1 := hlow 16 v
  have q2 := hhi 15 v hv16
  have q3 := rdd_le (A := A) (B := B) (Ho := Ho) (BG := BG) n.toNat 0 (itr (rdd A B Ho BG n.toNat 0) 15 F) v
  show itr (rdd A B Ho BG n.toNat 0) 16 F v = _
  have q4 : itr (rdd A B Ho BG n.toNat 0) 16 F v ≤ itr (rdd A B Ho BG n.toNat 0) 15 F v := q3
  omega
end TR
