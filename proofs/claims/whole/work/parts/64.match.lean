/-! PUSHED: sets of cars that have slots -/
theorem sm_le {f g : F1} : ∀ {n : Nat}, (∀ l : Nat, l < n → f l ≤ g l) → sm f n ≤ sm g n
  | 0, _ => Int.le_refl 0
  | n + 1, h => by
    have h1 := sm_le (n := n) (fun l hl => h l (by omega))
    have h2 := h n (by omega)
    show sm f n + f n ≤ sm g n + g n
    omega
theorem sm_lt {f g : F1} {k : Nat} : ∀ {n : Nat}, (∀ l : Nat, l < n → f l ≤ g l) → k < n → f k + 1 ≤ g k → sm f n + 1 ≤ sm g n
  | 0, _, hk, _ => absurd hk (Nat.not_lt_zero _)
  | n + 1, h, hk, hg => by
    show sm f n + f n + 1 ≤ sm g n + g n
    have h2 := h n (by omega)
    by_cases e : k = n
    · subst e
      have h1 := sm_le (n := k) (fun l hl => h l (by omega))
      omega
    · have h1 := sm_lt (n := n) (fun l hl => h l (by omega)) (by omega) hg
      omega
theorem sm_add (f g : F1) : ∀ n : Nat, sm (fun l => f l + g l) n = sm f n + sm g n
  | 0 => rfl
  | n + 1 => by
    show sm (fun l => f l + g l) n + (f n + g n) = sm f n + f n + (sm g n + g n)
    rw [sm_add f g n]
    omega
theorem sm_zero : ∀ n : Nat, sm (fun _ => 0) n = 0
  | 0 => rfl
  | n + 1 => by show sm (fun _ => 0) n + 0 = 0; rw [sm_zero n]; rfl
/-- how many of the first n have s -/
def cn (M : F1) (s : Int) (n : Nat) : Int := sm (fun c => if M c = s then 1 else 0) n
theorem cn_up {M : F1} {c n : Nat} {v s : Int} (hc : c < n) : cn (upI M c v) s n = cn M s n - (if M c = s then 1 else 0) + (if v = s then 1 else 0) := by
  unfold cn
  rw [show (fun d => if upI M c v d = s then (1 : Int) else 0) = upI (fun d => if M d = s then 1 else 0) c (if v = s then 1 else 0) from funext fun d => by
    by_cases e : d = c
    · rw [e, upI_s, upI_s]
    · rw [upI_n e, upI_n e], sm_up hc]
theorem cn_in (M : F1) (s : Int) (n : Nat) : 0 ≤ cn M s n ∧ cn M s n ≤ n := by
  have := sm_in (f := fun c => if M c = s then 1 else 0) (b := 1) (by omega) (n := n) (fun l _ => by
    show 0 ≤ (if M l = s then (1 : Int) else 0) ∧ (if M l = s then (1 : Int) else 0) ≤ 1
    split <;> omega)
  unfold cn
  omega
theorem cn_succ (M : F1) (s : Int) (n : Nat) : cn M s (n + 1) = cn M s n + (if M n = s then 1 else 0) := rfl
theorem cn_pos {M : F1} {s : Int} : ∀ {n : Nat}, 1 ≤ cn M s n → ∃ d : Nat, d < n ∧ M d = s
  | 0, h => absurd h (by unfold cn sm; omega)
  | n + 1, h => by
    rw [cn_succ] at h
    by_cases e : M n = s
    · exact ⟨n, by omega, e⟩
    · rw [if_neg e] at h
      obtain ⟨d, hd, e2⟩ := cn_pos (M := M) (s := s) (n := n) (by omega)
      exact ⟨d, by omega, e2⟩
theorem sm_delta (x : Int) (g : Int → Int) : ∀ S : Nat, sm (fun s => if x = (s : Int) then g x else 0) S = if 0 ≤ x ∧ x < S then g x else 0
  | 0 => by
    show (0 : Int) = _
    rw [if_neg (by omega)]
  | S + 1 => by
    show sm _ S + (if x = (S : Int) then g x else 0) = _
    rw [sm_delta x g S]
    by_cases e : x = (S : Int)
    · rw [if_neg (by omega), if_pos e, if_pos (by omega)]; omega
    · rw [if_neg e]
      by_cases d : 0 ≤ x ∧ x < S
      · rw [if_pos d, if_pos (by omega)]; omega
      · rw [if_neg d, if_neg (by omega)]; omega
/-- counted by slots or by cars -/
theorem dc (V : Int → Prop) [DecidablePred V] (M : F1) (S : Nat) : ∀ N : Nat, sm (fun s => if V s then cn M s N else 0) S = sm (fun c => if 0 ≤ M c ∧ M c < S ∧ V (M c) then 1 else 0) N
  | 0 => by
    show _ = (0 : Int)
    rw [show (fun s : Nat => if V (s : Int) then cn M s 0 else 0) = fun _ => 0 from funext fun s => by
      show (if V (s : Int) then (0 : Int) else 0) = 0
      split <;> rfl]
    exact sm_zero S
  | N + 1 => by
    show _ = sm _ N + (if 0 ≤ M N ∧ M N < S ∧ V (M N) then 1 else 0)
    rw [← dc V M S N]
    have e := sm_delta (M N) (fun s => if V s then 1 else 0) S
    rw [show (if 0 ≤ M N ∧ M N < (S : Int) then (if V (M N) then (1 : Int) else 0) else 0) = (if 0 ≤ M N ∧ M N < (S : Int) ∧ V (M N) then 1 else 0) by
      by_cases a : 0 ≤ M N ∧ M N < (S : Int)
      · by_cases b : V (M N)
        · rw [if_pos a, if_pos b, if_pos ⟨a.1, a.2, b⟩]
        · rw [if_pos a, if_neg b, if_neg (fun h => b h.2.2)]
      · rw [if_neg a, if_neg (fun h => a ⟨h.1, h.2.1⟩)]] at e
    rw [← e, ← sm_add]
    refine sm_congr (fun s _ => ?_)
    show (if V (s : Int) then cn M s (N + 1) else 0) = (if V (s : Int) then cn M s N else 0) + (if M N = (s : Int) then (if V (M N) then 1 else 0) else 0)
    rw [cn_succ]
    by_cases b : V (s : Int)
    · rw [if_pos b, if_pos b]
      by_cases a : M N = (s : Int)
      · rw [if_pos a, if_pos a, a, if_pos b]
      · rw [if_neg a, if_neg a]
    · rw [if_neg b, if_neg b]
      by_cases a : M N = (s : Int)
      · rw [if_pos a, a, if_neg b]; rfl
      · rw [if_neg a]; rfl
/-- full slots, held by cars that could have no other: one car more has none -/
theorem hall {V : Int → Prop} {M M' : F1} {N k S : Nat} (hk : k < N) (hV : ∀ s : Int, V s → 0 ≤ s ∧ s < S) (hf : ∀ s : Int, V s → cn M' s N ≤ cn M s N) (hh : ∀ c : Nat, c < N → V (M c) → V (M' c)) (h1 : ¬ V (M k)) (h2 : V (M' k)) : False := by
  classical
  have a := dc V M S N
  have b := dc V M' S N
  have c : sm (fun s => if V (s : Int) then cn M' s N else 0) S ≤ sm (fun s => if V (s : Int) then cn M s N else 0) S := sm_le (fun s _ => by
    show (if V (s : Int) then cn M' s N else 0) ≤ (if V (s : Int) then cn M s N else 0)
    by_cases v : V (s : Int)
    · rw [if_pos v, if_pos v]; exact hf s v
    · rw [if_neg v, if_neg v]; exact Int.le_refl 0)
  have d := sm_lt (f := fun c => if 0 ≤ M c ∧ M c < S ∧ V (M c) then 1 else 0) (g := fun c => if 0 ≤ M' c ∧ M' c < S ∧ V (M' c) then 1 else 0) (k := k) (n := N) (fun l hl => by
    show (if 0 ≤ M l ∧ M l < S ∧ V (M l) then (1 : Int) else 0) ≤ (if 0 ≤ M' l ∧ M' l < S ∧ V (M' l) then 1 else 0)
    by_cases v : V (M l)
    · have v2 := hh l hl v
      have r1 := hV _ v
      have r2 := hV _ v2
      rw [if_pos ⟨r1.1, r1.2, v⟩, if_pos ⟨r2.1, r2.2, v2⟩]; exact Int.le_refl 1
    · rw [if_neg (fun h => v h.2.2)]; split <;> omega) hk (by
    show (if 0 ≤ M k ∧ M k < S ∧ V (M k) then (1 : Int) else 0) + 1 ≤ (if 0 ≤ M' k ∧ M' k < S ∧ V (M' k) then 1 else 0)
    have r2 := hV _ h2
    rw [if_neg (fun h => h1 h.2.2), if_pos ⟨r2.1, r2.2, h2⟩]; omega)
  omega
/-- thirty slots with a car each are more than the other cars have -/
theorem thirty {M : F1} {N k : Nat} {x : Int} (hN : N ≤ 30) (hk : k < N) (h1 : ∀ b : Nat, b < 30 → 1 ≤ cn M (x - b) N) (h2 : ¬ (x - 30 < M k ∧ M k ≤ x)) : False := by
  classical
  have a := dc (fun _ => True) (fun c => x - M c) 30 N
  have e : ∀ b : Nat, cn (fun c => x - M c) (b : Int) N = cn M (x - b) N := fun b => sm_congr (fun c _ => by
    show (if x - M c = (b : Int) then (1 : Int) else 0) = (if M c = x - b then 1 else 0)
    by_cases q : M c = x - b
    · rw [if_pos q, if_pos (by omega)]
    · rw [if_neg q, if_neg (by omega)])
  have b : sm (fun _ => (1 : Int)) 30 ≤ sm (fun s : Nat => if True then cn (fun c => x - M c) (s : Int) N else 0) 30 := sm_le (fun s hs => by
    show (1 : Int) ≤ (if True then cn (fun c => x - M c) (s : Int) N else 0)
    rw [if_pos trivial, e s]
    exact h1 s hs)
  have d := sm_lt (f := fun c => if 0 ≤ x - M c ∧ x - M c < (30 : Nat) ∧ True then 1 else 0) (g := fun _ => 1) (k := k) (n := N) (fun l _ => by
    show (if 0 ≤ x - M l ∧ x - M l < (30 : Nat) ∧ True then (1 : Int) else 0) ≤ 1
    split <;> omega) hk (by
    show (if 0 ≤ x - M k ∧ x - M k < (30 : Nat) ∧ True then (1 : Int) else 0) + 1 ≤ 1
    rw [if_neg (fun h => h2 (by omega))]; omega)
  have one : ∀ n : Nat, sm (fun _ => (1 : Int)) n = n := by
    intro n
    induction n with
    | zero => rfl
    | succ n ih => show sm (fun _ => (1 : Int)) n + 1 = _; rw [ih]; omega
  rw [one] at b d
  rw [a] at b
  omega
section MT
/-- car c can be pushed off in slot s -/
def UU (T : Nat → F1) (PU : F1) (E : Int) (c : Nat) (s : Int) : Prop := ∃ (p : Nat) (h : Int), s = 120 * (p : Int) + h ∧ p < 16 ∧ 0 < PU p ∧ T c p ≤ h ∧ h < E
/-- cars and their slots -/
def VM (T : Nat → F1) (PU : F1) (E : Int) (N : Nat) (M : F1) : Prop := (∀ c : Nat, c < N → M c = -1 ∨ UU T PU E c (M c)) ∧ ∀ (p : Nat) (h : Int), p < 16 → 0 ≤ h → h < 120 → cn M (120 * (p : Int) + h) N ≤ PU p
/-- the cars that have a slot in M, and car k besides, can have one at once -/
def EXT (T : Nat → F1) (PU : F1) (E : Int) (N : Nat) (M : F1) (k : Nat) : Prop := ∃ M' : F1, VM T PU E N M' ∧ M' k ≠ -1 ∧ ∀ c : Nat, c < N → M c ≠ -1 → M' c ≠ -1
/-- what is given: arrivals, pushers, the hour -/
def GV (T : Nat → F1) (PU : F1) (E : Int) (N : Nat) : Prop := N ≤ 30 ∧ 0 ≤ E ∧ E ≤ 120 ∧ (∀ p : Nat, p < 16 → 0 ≤ PU p ∧ PU p ≤ 9) ∧ ∀ c : Nat, c < N → HB (T c)
variable {T : Nat → F1} {PU : F1} {E : Int} {N : Nat}
theorem UU.in (hg : GV T PU E N) {c : Nat} (hc : c < N) {s : Int} (h : UU T PU E c s) : ∃ (p : Nat) (h : Int), s = 120 * (p : Int) + h ∧ p < 16 ∧ 0 < PU p ∧ PU p ≤ 9 ∧ T c p ≤ h ∧ 0 ≤ T c p ∧ 0 ≤ h ∧ h < E ∧ h < 120 ∧ 0 ≤ s ∧ s < 1920 := by
  obtain ⟨p, x, e, h1, h2, h3, h4⟩ := h
  have t := hg.2.2.2.2 c hc p h1
  have t2 := hg.2.2.2.1 p h1
  have t3 := hg.2.2.1
  exact ⟨p, x, e, h1, h2, t2.2, h3, by omega, by omega, h4, by omega, by omega, by omega⟩
/-- no chain found: none is there -/
theorem no_ext (hg : GV T PU E N) {M : F1} {k : Nat} (hk : k < N) (h0 : M k = -1) {V : Int → Prop} (hV : ∀ s : Int, V s → ∃ (p : Nat) (h : Int), s = 120 * (p : Int) + h ∧ p < 16 ∧ 0 ≤ h ∧ h < 120 ∧ PU p ≤ cn M s N) (hA : ∀ s : Int, UU T PU E k s → V s) (hB : ∀ c : Nat, c < N → V (M c) → ∀ s : Int, UU T PU E c s → V s) : ¬ EXT T PU E N M k := by
  rintro ⟨M', v, h1, h2⟩
  have use : ∀ c : Nat, c < N → M' c ≠ -1 → UU T PU E c (M' c) := fun c hc h => (v.1 c hc).resolve_left h
  refine hall (V := V) (M := M) (M' := M') (N := N) (k := k) (S := 1920) hk (fun s hs => ?_) (fun s hs => ?_) (fun c hc hv => ?_) (fun hv => ?_) ?_
  · obtain ⟨p, h, e, a, b, c, -⟩ := hV s hs
    omega
  · obtain ⟨p, h, e, a, b, c, d⟩ := hV s hs
    have := v.2 p h a b c
    rw [← e] at this
    omega
  · refine hB c hc hv _ (use c hc (h2 c hc (fun e => ?_)))
    obtain ⟨p, h, e2, a, b, -, -⟩ := hV _ hv
    omega
  · obtain ⟨p, h, e2, a, b, -, -⟩ := hV _ hv
    omega
  · exact hA _ (use k hk h1)
/-- what cars have comes to the same set: the same cars can come in -/
theorem ext_same {M M2 : F1} {k : Nat} (h : ∀ c : Nat, c < N → (M c = -1 ↔ M2 c = -1)) (x : EXT T PU E N M k) : EXT T PU E N M2 k := by
  obtain ⟨M', v, h1, h2⟩ := x
  exact ⟨M', v, h1, fun c hc h3 => h2 c hc (fun e => h3 ((h c hc).mp e))⟩
/-- the search: cars asked, in their order; D: which cars but the first; P: who asked -/
def BF (T : Nat → F1) (PU : F1) (E : Int) (N : Nat) (M : F1) (k : Nat) (D : Nat → Prop) (q : F1) (L : Nat) (P : Nat → Int) : Prop :=
  1 ≤ L ∧ q 0 = k ∧ (∀ i : Nat, i < L → 0 ≤ q i ∧ q i < N) ∧ (∀ i j : Nat, i < j → j < L → q i ≠ q j) ∧ (∀ i : Nat, 0 < i → i < L → D (q i).toNat) ∧ (∀ d : Nat, d < N → D d → ∃ i : Nat, 0 < i ∧ i < L ∧ q i = d) ∧ ∀ i : Nat, 0 < i → i < L → ∃ j : Nat, j < i ∧ P (q i).toNat = q j ∧ UU T PU E (q j).toNat (M (q i).toNat)
section BQ
variable {M : F1} {k : Nat} {D : Nat → Prop} {q : F1} {L : Nat} {P : Nat → Int}
theorem BF.l1 (h : BF T PU E N M k D q L P) : 1 ≤ L := h.1
theorem BF.q0 (h : BF T PU E N M k D q L P) : q 0 = k := h.2.1
theorem BF.rg (h : BF T PU E N M k D q L P) : ∀ i : Nat, i < L → 0 ≤ q i ∧ q i < N := h.2.2.1
theorem BF.ds (h : BF T PU E N M k D q L P) : ∀ i j : Nat, i < j → j < L → q i ≠ q j := h.2.2.2.1
theorem BF.me (h : BF T PU E N M k D q L P) : ∀ i : Nat, 0 < i → i < L → D (q i).toNat := h.2.2.2.2.1
theorem BF.al (h : BF T PU E N M k D q L P) : ∀ d : Nat, d < N → D d → ∃ i : Nat, 0 < i ∧ i < L ∧ q i = d := h.2.2.2.2.2.1
theorem BF.pa (h : BF T PU E N M k D q L P) : ∀ i : Nat, 0 < i → i < L → ∃ j : Nat, j < i ∧ P (q i).toNat = q j ∧ UU T PU E (q j).toNat (M (q i).toNat) := h.2.2.2.2.2.2
end BQ
theorem BF.len {M : F1} {k : Nat} {D : Nat → Prop} {q : F1} {L : Nat} {P : Nat → Int} (h : BF T PU E N M k D q L P) : L ≤ N := by
  have h1 := h.l1
  have := pigeon N (L - 1) (fun i => (q i).toNat) (fun i hi => by
    have := h.rg i (by omega)
    show (q i).toNat < N
    omega) (fun i j hij hj => by
    have a := h.ds i j hij (by omega)
    have b := h.rg i (by omega)
    have c := h.rg j (by omega)
    show (q i).toNat ≠ (q j).toNat
    omega)
  omega
theorem BF.ask {M : F1} {k : Nat} {D D' : Nat → Prop} {q : F1} {L : Nat} {P P' : Nat → Int} (h : BF T PU E N M k D q L P) {d : Nat} (hd : d < N) (hdk : d ≠ k) (hn : ¬ D d) (hD : ∀ c : Nat, c < N → (D' c ↔ D c ∨ c = d)) {hd' : Nat} (hh : hd' < L) (hu : UU T PU E (q hd').toNat (M d)) (hP : P' d = q hd') (hP2 : ∀ c : Nat, c < N → D c → P' c = P c) : BF T PU E N M k D' (upI q L d) (L + 1) P' := by
  have q0 := h.q0
  have old : ∀ i : Nat, i < L → upI q L d i = q i := fun i hi => upI_n (by omega)
  have ne : ∀ i : Nat, i < L → q i ≠ (d : Int) := fun i hi e => by
    rcases Nat.eq_zero_or_pos i with c | c
    · subst c; omega
    · have := h.me i c hi
      rw [e] at this
      exact hn this
  refine ⟨by omega, ?_, fun i hi => ?_, fun i j hij hj => ?_, fun i hi hi2 => ?_, fun c hc hc2 => ?_, fun i hi hi2 => ?_⟩
  · rw [old 0 h.l1]; exact q0
  · by_cases e : i = L
    · rw [e, upI_s]; omega
    · rw [old i (by omega)]; exact h.rg i (by omega)
  · rw [old i (by omega)]
    by_cases e : j = L
    · rw [e, upI_s]; exact ne i (by omega)
    · rw [old j (by omega)]; exact h.ds i j hij (by omega)
  · by_cases e : i = L
    · rw [e, upI_s]; exact (hD d hd).mpr (Or.inr rfl)
    · rw [old i (by omega)]
      have r := h.rg i (by omega)
      exact (hD _ (by omega)).mpr (Or.inl (h.me i hi (by omega)))
  · rcases (hD c hc).mp hc2 with c1 | c1
    · obtain ⟨i, a, b, e⟩ := h.al c hc c1
      exact ⟨i, a, by omega, by rw [old i b]; exact e⟩
    · exact ⟨L, h.l1, by omega, by rw [upI_s, c1]⟩
  · by_cases e : i = L
    · subst e
      refine ⟨hd', hh, ?_, ?_⟩
      · rw [upI_s, old _ hh]; exact hP
      · rw [upI_s, old _ hh]; exact hu
    · have r := h.rg i (by omega)
      obtain ⟨j, a, b, c⟩ := h.pa i hi (by omega)
      refine ⟨j, a, ?_, ?_⟩
      · rw [old i (by omega), old j (by omega), hP2 _ (by omega) (h.me i hi (by omega))]; exact b
      · rw [old i (by omega), old j (by omega)]; exact c
/-- one car of the chain takes the slot s -/
theorem VM.move (hg : GV T PU E N) {M0 : F1} (v : VM T PU E N M0) {c : Nat} (hc : c < N) {s : Int} (hu : UU T PU E c s) (hs : ∀ (p : Nat) (h : Int), s = 120 * (p : Int) + h → p < 16 → 0 ≤ h → h < 120 → cn M0 s N < PU p) : VM T PU E N (upI M0 c s) ∧ (∀ (p : Nat) (h : Int), M0 c = 120 * (p : Int) + h → p < 16 → 0 ≤ h → h < 120 → cn (upI M0 c s) (M0 c) N < PU p) := by
  refine ⟨⟨fun d hd => ?_, fun p h hp h0 h1 => ?_⟩, fun p h e hp h0 h1 => ?_⟩
  · by_cases e : d = c
    · subst e; rw [upI_s]; exact Or.inr hu
    · rw [upI_n e]; exact v.1 d hd
  · have a := v.2 p h hp h0 h1
    rw [cn_up hc]
    by_cases e : s = 120 * (p : Int) + h
    · have b := hs p h e hp h0 h1
      rw [if_pos e, ← e]
      split <;> omega
    · rw [if_neg e]
      split <;> omega
  · have a := v.2 p h hp h0 h1
    rw [← e] at a
    rw [cn_up hc, if_pos rfl]
    by_cases e2 : s = M0 c
    · have b := hs p h (by omega) hp h0 h1
      rw [if_pos e2]
      rw [e2] at b
      omega
    · rw [if_neg e2]
      omega
/-- along the chain: the car at place i of the queue is to take s -/
def CS (T : Nat → F1) (PU : F1) (E : Int) (N : Nat) (M : F1) (q : F1) (M0 : F1) (i : Nat) (s : Int) : Prop := VM T PU E N M0 ∧ UU T PU E (q i).toNat s ∧ (∀ j : Nat, j ≤ i → M0 (q j).toNat = M (q j).toNat) ∧ (∀ (p : Nat) (h : Int), s = 120 * (p : Int) + h → p < 16 → 0 ≤ h → h < 120 → cn M0 s N < PU p) ∧ ∀ c : Nat, (M0 c = -1 ↔ M c = -1)
def DNE (T : Nat → F1) (PU : F1) (E : Int) (N : Nat) (M : F1) (k : Nat) (M1 : F1) : Prop := VM T PU E N M1 ∧ M1 k ≠ -1 ∧ ∀ c : Nat, c ≠ k → (M1 c = -1 ↔ M c = -1)
theorem CS.last (hg : GV T PU E N) {M : F1} {k : Nat} {D : Nat → Prop} {q : F1} {L : Nat} {P : Nat → Int} (h : BF T PU E N M k D q L P) {M0 : F1} {s : Int} (c : CS T PU E N M q M0 0 s) : DNE T PU E N M k (upI M0 (q 0).toNat s) := by
  obtain ⟨c1, c2, c3, c4, c5⟩ := c
  have r := h.rg 0 h.l1
  have q0 := h.q0
  have u := c2.in hg (by omega)
  obtain ⟨v, -⟩ := c1.move hg (c := (q 0).toNat) (by omega) c2 c4
  obtain ⟨-, -, -, -, -, -, -, -, -, -, -, s0, -⟩ := u
  refine ⟨v, ?_, fun d hd => ?_⟩
  · rw [show (q 0).toNat = k by omega, upI_s]; omega
  · rw [upI_n (by omega)]; exact c5 d
theorem CS.next (hg : GV T PU E N) {M : F1} {k : Nat} {D : Nat → Prop} {q : F1} {L : Nat} {P : Nat → Int} (h : BF T PU E N M k D q L P) {M0 : F1} {s : Int} {i : Nat} (hi : 0 < i) (hL : i < L) (c : CS T PU E N M q M0 i s) : ∃ j : Nat, j < i ∧ P (q i).toNat = q j ∧ CS T PU E N M q (upI M0 (q i).toNat s) j (M (q i).toNat) := by
  obtain ⟨c1, c2, c3, c4, c5⟩ := c
  obtain ⟨j, a, b, e⟩ := h.pa i hi hL
  have r := h.rg i hL
  have rj := h.rg j (by omega)
  have u := c2.in hg (by omega)
  have u2 := e.in hg (by omega)
  obtain ⟨v, w⟩ := c1.move hg (c := (q i).toNat) (by omega) c2 c4
  obtain ⟨-, -, -, -, -, -, -, -, -, -, -, s0, -⟩ := u
  obtain ⟨-, -, -, -, -, -, -, -, -, -, -, s1, -⟩ := u2
  have cc := c3 i (Nat.le_refl i)
  rw [cc] at w
  refine ⟨j, a, b, v, e, fun j2 hj => ?_, w, fun d => ?_⟩
  · have := h.ds j2 i (by omega) hL
    have r2 := h.rg j2 (by omega)
    rw [upI_n (by omega)]
    exact c3 j2 (by omega)
  · by_cases x : d = (q i).toNat
    · rw [x, upI_s]
      constructor
      · intro y; omega
      · intro y; omega
    · rw [upI_n x]; exact c5 d
end MT
