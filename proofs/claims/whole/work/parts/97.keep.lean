/-! WHAT HOLDS BETWEEN CALLS -/
section KP
variable {n no : Int} {A B M Ho Se oL af hr wi rL rA rH rW BG DN : F1} {rs ro : Int}
theorem rk_new {M' Se' : F1} (h : PV n no oL af hr wi) (hM : ∀ l : Nat, (l : Int) < n → M' l = M l) (hS : ∀ l : Nat, (l : Int) < n → Se' l = Se l) (s : F1 × F1) : ∀ k : Nat, (k : Int) ≤ no → rk oL af hr wi M' Se' rs ro k s = rk oL af hr wi M Se rs ro k s
  | 0, _ => rfl
  | k + 1, hk => by
    have ih := rk_new h hM hS s k (by omega)
    obtain ⟨q0, q1, -⟩ := h.2.2.1 k (by omega)
    have e1 := hM (oL k).toNat (by omega)
    have e2 := hS (oL k).toNat (by omega)
    show rkS oL af hr wi M' Se' rs ro k (rk oL af hr wi M' Se' rs ro k s) = rkS oL af hr wi M Se rs ro k (rk oL af hr wi M Se rs ro k s)
    rw [ih]
    unfold rkS pace
    rw [e1, e2]
/-- one line more leaves the plan in force as it is -/
theorem PI.line (h : PI n no A B M Ho Se oL af hr wi rL rA rH rW BG DN rs ro) {a b mi ho se : Int} (hn : n < 30) (a0 : 0 ≤ a) (a1 : a ≤ 15) (b0 : 0 ≤ b) (b1 : b ≤ 15) (ne : a ≠ b) (m0 : 1 ≤ mi) (m1 : mi ≤ 200) (h0 : 1 ≤ ho) (h1 : ho ≤ 12) (hse : se = 0 ∨ se = 1) : PI (n + 1) no (upI A n.toNat a) (upI B n.toNat b) (upI M n.toNat mi) (upI Ho n.toNat ho) (upI Se n.toNat se) oL af hr wi rL rA rH rW BG DN rs ro := by
  obtain ⟨l1, l2, l3, l4⟩ := h
  have n0 := l1.1
  have hno := l2.1
  have old : ∀ (F : F1) (z : Int) (l : Nat), (l : Int) < n → upI F n.toNat z l = F l := fun F z l hl => upI_n (by omega)
  refine ⟨⟨by omega, by omega, l1.2.2.1, l1.2.2.2.1, l1.2.2.2.2.1, l1.2.2.2.2.2.1, fun l hl => ?_⟩, ⟨l2.1, l2.2.1, fun k hk => ?_, l2.2.2.2⟩, l3, fun l hl => ?_⟩
  · by_cases c : (l : Int) < n
    · rw [old A a l c, old B b l c, old M mi l c, old Ho ho l c, old Se se l c]
      exact l1.2.2.2.2.2.2 l c
    · have e : l = n.toNat := by omega
      subst e
      rw [upI_s, upI_s, upI_s, upI_s, upI_s]
      exact ⟨a0, a1, b0, b1, ne, m0, m1, h0, h1, hse⟩
  · obtain ⟨q0, q1, q⟩ := l2.2.2.1 k hk
    exact ⟨q0, by omega, q⟩
  · rw [rk_new (M := M) (Se := Se) l2 (fun l hl => old M mi l hl) (fun l hl => old Se se l hl) NV no.toNat (by omega)]
    exact l4 l hl
theorem PI.fresh {rs ro : Int} (h1 : 1 ≤ rs ∧ rs ≤ 20) (h2 : 1 ≤ ro ∧ ro ≤ 20) {A B M Ho Se oL af hr wi rL rA rH rW BG DN : F1} (hw : ∀ l : Nat, wi l = 0) (hb : ∀ l : Nat, l < 30 → BG l = 1000000) (hd : ∀ l : Nat, l < 30 → DN l = 1000000) : PI 0 0 A B M Ho Se oL af hr wi rL rA rH rW BG DN rs ro :=
  ⟨⟨by omega, by omega, h1.1, h1.2, h2.1, h2.2, fun l hl => by omega⟩, ⟨by omega, by omega, fun k hk => by omega, fun l _ _ => hw l⟩, fun k hk => by omega, fun l hl => ⟨hb l hl, hd l hl⟩⟩
theorem HAS.car {c hl pc : Int} {w S : F1} (h : HAS c hl pc w S) (hc : 0 ≤ c) : HAS (c + 1) hl pc w (upI S c.toNat (-1)) := by
  rcases h with ⟨h1, h2⟩ | ⟨h1, h2, h3, h4, h5⟩
  · exact Or.inl ⟨h1, h2⟩
  · refine Or.inr ⟨h1, h2, by omega, fun k hk => ?_, h5⟩
    rw [upI_n (by omega)]
    exact h4 k hk
theorem CV.car {c : Int} {CP CH : F1} (h : CV c CP CH) (hc : c < 30) {p q : Int} (p0 : 0 ≤ p) (p1 : p ≤ 15) (q0 : 0 ≤ q) (q1 : q ≤ 120) : CV (c + 1) (upI CP c.toNat p) (upI CH c.toNat q) := by
  have c0 := h.1
  refine ⟨by omega, by omega, fun k hk => ?_⟩
  by_cases e : (k : Int) < c
  · rw [upI_n (by omega), upI_n (by omega)]
    exact h.2.2 k e
  · have e2 : k = c.toNat := by omega
    subst e2
    rw [upI_s, upI_s]
    exact ⟨p0, p1, q0, q1⟩
theorem I32.up {F : F1} (h : ∀ k : Nat, I32 (F k)) (j : Nat) {z : Int} (hz : I32 z) : ∀ k : Nat, I32 (upI F j z k) := fun k => by
  by_cases e : k = j
  · subst e; rw [upI_s]; exact hz
  · rw [upI_n e]; exact h k
theorem row_up {F : F1} {m lo hi : Int} (m0 : 0 ≤ m) (h : ∀ i : Nat, (i : Int) < m → lo ≤ F i ∧ F i ≤ hi) {z : Int} (hz : lo ≤ z ∧ z ≤ hi) : ∀ i : Nat, (i : Int) < m + 1 → lo ≤ upI F m.toNat z i ∧ upI F m.toNat z i ≤ hi := fun i hi => by
  by_cases e : i = m.toNat
  · subst e; rw [upI_s]; exact hz
  · rw [upI_n e]; exact h i (by omega)
/-- the two objects say the same, and can be -/
def INV (n rs ro g t no st tr c hl pc nw m : Int) (A B M Ho Se oL af hr wi rL rA rH rW BG DN TB CP CH PU w S SH SK SL : F1) : Prop :=
  PI n no A B M Ho Se oL af hr wi rL rA rH rW BG DN rs ro ∧ (0 ≤ g ∧ g ≤ 99) ∧ (0 ≤ t ∧ t ≤ 400) ∧ (∀ k : Nat, 0 ≤ TB k ∧ TB k ≤ 255) ∧ (-1 ≤ st ∧ st ≤ 31) ∧ (0 ≤ tr ∧ tr ≤ 12) ∧ CV c CP CH ∧ (∀ p : Nat, p < 16 → 0 ≤ PU p ∧ PU p ≤ 9) ∧ (HAS c hl pc w S ∧ (∀ k : Nat, I32 (w k)) ∧ ∀ k : Nat, I32 (S k)) ∧ (0 ≤ nw ∧ nw ≤ 60) ∧ (0 ≤ m ∧ m ≤ 200) ∧ (∀ i : Nat, (i : Int) < m → 0 ≤ SH i ∧ SH i ≤ 120) ∧ (∀ i : Nat, (i : Int) < m → 0 ≤ SK i ∧ SK i ≤ 1000) ∧ ∀ i : Nat, (i : Int) < m → 0 ≤ SL i ∧ SL i ≤ 60
end KP
