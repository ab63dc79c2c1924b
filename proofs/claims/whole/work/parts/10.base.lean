abbrev nwM : List (String × Nat × MethodName) := [(RX9, 9, yX3_init), (RX3, 11, yX1_init), (RX9, 18, yX6_init), (RX9, 25, yX4_init), (RX9, 32, yX7_init), (RX9, 39, yX0_init), (RX9, 46, yX5_init), (RX9, 53, yX8_init), (RX1, 37, yX9_isPlace), (RX1, 41, yX9_isWithin), (RX1, 45, yX9_put), (RX2, 45, yX9_at), (RX2, 41, yX9_put), (RX1, 49, yX9_at), (RX7, 35, yX9_isWithin), (RX6, 25, yX9_put), (RX6, 32, yX9_at), (RX6, 66, yX9_isWithin), (RX7, 43, yX9_isPlace), (RX7, 47, yX9_isHour), (RX7, 80, yX9_put), (RX7, 39, yX9_at), (RX3, 40, yX9_at), (RX5, 38, yX9_isPlace), (RX5, 42, yX9_isWithin), (RX5, 46, yX9_at), (RX5, 50, yX9_put), (RX0, 25, yX9_isPlace), (RX0, 29, yX9_isHour), (RX0, 32, yX9_put), (RX0, 48, yX9_at), (RX5, 54, yX9_isHour), (RX8, 40, yX9_put), (RX8, 44, yX9_isHour), (RX8, 47, yX9_isWithin), (RX8, 52, yX9_at)]
abbrev nwF : List (String × Nat × String × String × String) := [(RX3, 49, RX1, "hours", "[I"), (RX0, 64, RX1, "many", "I"), (RX7, 110, RX1, "many", "I"), (RX9, 185, RX1, "many", "I"), (RX3, 52, RX2, "begins", "[I"), (RX3, 36, RX2, "done", "[I"), (RX9, 124, RX2, "many", "I"), (RX9, 68, RX3, "lines", "LGaugeWeekend$Lines;"), (RX0, 58, RX3, "lines", "LGaugeWeekend$Lines;"), (RX7, 62, RX3, "lines", "LGaugeWeekend$Lines;"), (RX9, 121, RX3, "plan", "LGaugeWeekend$Plan;"), (RX9, 107, RX3, "draft", "LGaugeWeekend$Plan;"), (RX9, 101, RX6, "length", "I"), (RX9, 115, RX6, "tokenStart", "I"), (RX5, 63, RX0, "many", "I"), (RX9, 186, RX0, "many", "I"), (RX9, 187, RX8, "many", "I"), (RX9, 188, RX8, "manySeen", "I")]
def kTx : List (Nat × String × Nat) := [(60, "line", 0), (54, ";", 1), (77, "at", 2), (83, "after", 3), (87, "and", 4), (89, "with", 5)]
/-! BASE: one shape of contract for all methods that make no cells; a call and a return in one row each. -/
abbrev KE : Type := va_G × (ClassId × ClassId) × (Nat → Nat) × (Nat → Nat)
abbrev kD (E : KE) : va_G := E.1
abbrev kT (E : KE) : List (ClassId × FieldType) := [(E.2.1.1, .int), (E.2.1.2, .boolean)]
abbrev oo (a ci : Nat) (fs : List Value) : Nat × va_E := (a, .inr (ci, fs))
abbrev ar (E : KE) (a n : Nat) (f : Nat → Int32) : Nat × va_E := (a, .inl (E.2.1.1, n, .inl f))
abbrev az (E : KE) (a n : Nat) (f : Nat → Int32) : Nat × va_E := (a, .inl (E.2.1.2, n, .inl f))
/-- links between nest mates, kept beside the words -/
def NW (U : State) : Prop := (∀ q ∈ nwM, va_Nw (.methodLinkNest q.1 q.2.1 q.2.2 "GaugeWeekend") U) ∧ ∀ q ∈ nwF, va_Nw (.fieldLinkNest q.1 q.2.1 q.2.2.1 q.2.2.2.1 q.2.2.2.2 "GaugeWeekend") U
theorem NW.warm {s U : State} (hW : s.WarmedH U.vm) (h : NW s) : NW U := ⟨fun q hq => va_Nw.warmM hW (h.1 q hq), fun q hq => va_Nw.warmF hW (h.2 q hq)⟩
theorem NW.same {s U : State} (hv : s.vm = U.vm) (h : NW s) : NW U := ⟨fun q hq => va_Nw.same rfl hv (h.1 q hq), fun q hq => va_Nw.same rfl hv (h.2 q hq)⟩
theorem NW.m {s : State} (h : NW s) (k : Nat) {q : String × Nat × MethodName} (hk : nwM[k]? = some q) : va_Nw (.methodLinkNest q.1 q.2.1 q.2.2 "GaugeWeekend") s := h.1 q (List.mem_of_getElem? hk)
theorem NW.f {s : State} {args : Array Value} (h : NW s) (k : Nat) {q : String × Nat × String × String × String} (hk : nwF[k]? = some q) : (Cond.fieldLinkNest q.1 q.2.1 q.2.2.1 q.2.2.2.1 q.2.2.2.2 "GaugeWeekend").before args s = true := va_Nw.use rfl (h.2 q (List.mem_of_getElem? hk))
/-- the texts of the class -/
def SW (E : KE) (A : Nat → Prop) (U : State) (H : Heap) : Prop :=
  vk_S 6 kLen kByt E.2.2.1 E.2.2.2 A U H ∧ (∀ q ∈ kTx, vk_R RX4 q.1 q.2.1 (E.2.2.1 q.2.2) U) ∧ va_Z "java/lang/String" "COMPACT_STRINGS" "Z" (.int 1) A U H ∧ va_Zq "jdk/internal/util/Preconditions" "SIOOBE_FORMATTER" "Ljava/util/function/BiFunction;" A U H
theorem SW.moved {E : KE} {A : Nat → Prop} {s U : State} {H : Heap} (hW : s.WarmedH U.vm) (h : SW E A s H) : SW E A U H :=
  ⟨h.1.moved hW.alike, fun q hq => (h.2.1 q hq).warm hW, h.2.2.1.moved hW.alike, h.2.2.2.moved hW.alike⟩
theorem SW.kept {E : KE} {A : Nat → Prop} {U : State} {H H1 : Heap} (h : SW E A U H) (hq : ∀ a : Nat, a < H.size → ¬ A a → H1[a]? = H[a]?) : SW E A U H1 :=
  ⟨h.1.kept hq, h.2.1, h.2.2.1.kept hq, h.2.2.2.kept hq⟩
theorem SW.narrow {E : KE} {A B : Nat → Prop} {U : State} {H : Heap} (h : SW E A U H) (hAB : ∀ q, B q → A q) : SW E B U H :=
  ⟨h.1.narrow hAB, h.2.1, h.2.2.1.narrow hAB, h.2.2.2.narrow hAB⟩
theorem SW.calling {E : KE} {A : Nat → Prop} {U : State} {g : JFrame} {mk : MethodId} {a : Array Value} (h : SW E A U U.heap) : SW E A (U.calling g mk a) U.heap :=
  ⟨h.1.moved (U := U.calling g mk a) (Vm.Alike.refl U.vm), fun q hq => (h.2.1 q hq).same (U := U.calling g mk a) rfl, h.2.2.1.moved (U := U.calling g mk a) (Vm.Alike.refl U.vm), h.2.2.2.moved (U := U.calling g mk a) (Vm.Alike.refl U.vm)⟩
/-- what every method of the class is given beside its own cells -/
def EV (E : KE) (A : Nat → Prop) (U : State) : Prop := va_K (kD E) vwCl (kT E) U ∧ NW U ∧ SW E A U U.heap
theorem EV.to {E : KE} {A B : Nat → Prop} {s U : State} {H : Heap} {locs : List Loc} (h : EV E A s) (hS : va_S A s.heap H locs) (hAB : ∀ q, B q → A q) (hU : U.heap = H) (hW : s.WarmedH U.vm) : EV E B U :=
  ⟨va_K.moved hW.alike h.1, h.2.1.warm hW, by rw [hU]; exact ((h.2.2.kept hS.2.1).moved hW).narrow hAB⟩
theorem EV.calling {E : KE} {A : Nat → Prop} {U : State} {g : JFrame} {mk : MethodId} {a : Array Value} (h : EV E A U) : EV E A (U.calling g mk a) :=
  ⟨va_K.moved (U := U.calling g mk a) (Vm.Alike.refl U.vm) h.1, h.2.1.same (U := U.calling g mk a) rfl, h.2.2.calling⟩
def kPc (E : KE) (av : List Value) (w : va_W) (sz : Nat) : Array Value → State → Prop := va_Pc av (fun U => U.heap.size = sz ∧ va_P (kD E) vwCl w U.heap ∧ va_D (fun _ => True) w ∧ EV E (va_A w sz) U)
def kQi (E : KE) (w w1 : va_W) (r : Int32) (sz : Nat) : Array Value → State → Outcome → State → Prop := va_Qi (fun r' (_ : Unit) => r' = r) (fun _ t => va_P (kD E) vwCl w1 t.heap) (va_A w sz)
def kQv (E : KE) (w w1 : va_W) (sz : Nat) : Array Value → State → Outcome → State → Prop := va_Qv (fun (_ : Unit) => True) (fun _ t => va_P (kD E) vwCl w1 t.heap) (va_A w sz)
/-- an int method's contract: from the world w, with the arguments av, it answers r and leaves the world w1 -/
def KI (l : Launch) (E : KE) (y : MethodName) (ws : List Cond) (rm : Room) (av : List Value) (w w1 : va_W) (r : Int32) : Prop := ∀ sz : Nat, Met l y ws rm (kPc E av w sz) (kQi E w w1 r sz) 0 0 (va_A w sz)
def KV (l : Launch) (E : KE) (y : MethodName) (ws : List Cond) (rm : Room) (av : List Value) (w w1 : va_W) : Prop := ∀ sz : Nat, Met l y ws rm (kPc E av w sz) (kQv E w w1 sz) 0 0 (va_A w sz)
theorem kPc.blind {E : KE} {av : List Value} {w : va_W} {sz : Nat} : FrameBlind (kPc E av w sz) := fun _ _ _ _ h => ⟨h.1, h.2.1, h.2.2.1, h.2.2.2.1, h.2.2.2.2.calling⟩
/-- cells put back at their places -/
def kset : va_W → List Nat → va_W → va_W
  | w, i :: is, x :: xs => kset (w.set i x) is xs
  | w, _, _ => w
theorem kset_get : ∀ (is : List Nat) (xs w : va_W) (k : Nat) (q : Nat × va_E), is.length = xs.length → (kset w is xs)[k]? = some q → (∃ j : Nat, is[j]? = some k ∧ xs[j]? = some q) ∨ (k ∉ is ∧ w[k]? = some q)
  | [], xs, w, k, q, _, h => Or.inr ⟨List.not_mem_nil, by cases xs <;> exact h⟩
  | i :: is, [], w, k, q, hl, h => by simp at hl
  | i :: is, x :: xs, w, k, q, hl, h => by
    have h' : (kset (w.set i x) is xs)[k]? = some q := h
    rcases kset_get is xs (w.set i x) k q (by simpa using hl) h' with ⟨j, h1, h2⟩ | ⟨h1, h2⟩
    · exact Or.inl ⟨j + 1, h1, h2⟩
    · by_cases hk : k = i
      · subst hk
        rw [List.getElem?_set] at h2
        by_cases hlt : k < w.length
        · simp [hlt] at h2
          exact Or.inl ⟨0, rfl, by rw [← h2]; rfl⟩
        · simp [hlt] at h2
      · rw [List.getElem?_set_ne (Ne.symm hk)] at h2
        exact Or.inr ⟨fun hm => by rcases List.mem_cons.mp hm with e | e; exact hk e; exact h1 e, h2⟩
theorem kset_world {E : KE} {A : Nat → Prop} {w wc w1 w' : va_W} {ads : List Nat} {H H1 : Heap} (hP : va_P (kD E) vwCl w H) (hD : va_D A w) (isC : List Nat) (hC : isC.map (fun i => w[i]?) = wc.map some) (had1 : w1.map (·.1) = ads) (had2 : wc.map (·.1) = ads) (hW : kset w isC w1 = w')
    (hk : ∀ q : Nat, q < H.size → ¬ va_A wc H.size q → H1[q]? = H[q]?) (hP1 : va_P (kD E) vwCl w1 H1) : va_P (kD E) vwCl w' H1 ∧ va_D A w' := by
  have had : w1.map (·.1) = wc.map (·.1) := had1.trans had2.symm
  have hl1 : isC.length = wc.length := by simpa using congrArg List.length hC
  have hl2 : w1.length = wc.length := by simpa using congrArg List.length had
  have hcell : ∀ (j i : Nat), isC[j]? = some i → ∃ q, wc[j]? = some q ∧ w[i]? = some q := by
    intro j i hj
    have h1 : (isC.map (fun i => w[i]?))[j]? = some (w[i]?) := by rw [List.getElem?_map, hj]; rfl
    rw [hC, List.getElem?_map] at h1
    cases hw : wc[j]? with
    | none => rw [hw] at h1; cases h1
    | some q => rw [hw] at h1; exact ⟨q, rfl, (Option.some.inj h1).symm⟩
  have hadr : ∀ (j : Nat) (q qc : Nat × va_E), w1[j]? = some q → wc[j]? = some qc → qc.1 = q.1 := by
    intro j q qc h1 h2
    have h3 : (w1.map (·.1))[j]? = some q.1 := by rw [List.getElem?_map, h1]; rfl
    rw [had, List.getElem?_map, h2] at h3
    exact Option.some.inj h3
  have hget : ∀ (k : Nat) (q : Nat × va_E), w'[k]? = some q → (∃ j : Nat, isC[j]? = some k ∧ w1[j]? = some q) ∨ (k ∉ isC ∧ w[k]? = some q) := by
    intro k q hq
    rw [← hW] at hq
    exact kset_get isC w1 w k q (by omega) hq
  have hold : ∀ (k : Nat) (q : Nat × va_E), w'[k]? = some q → ∃ q0, w[k]? = some q0 ∧ q0.1 = q.1 := by
    intro k q hq
    rcases hget k q hq with ⟨j, h1, h2⟩ | ⟨-, h2⟩
    · obtain ⟨qc, h3, h4⟩ := hcell j k h1
      exact ⟨qc, h4, hadr j q qc h2 h3⟩
    · exact ⟨q, h2, rfl⟩
  refine ⟨fun k q hq => ?_, fun i j x y hx hy hxy => ?_, fun k q hq => ?_⟩
  · rcases hget k q hq with ⟨j, h1, h2⟩ | ⟨hn, h2⟩
    · exact hP1 j q h2
    · have hlt := (hP k q h2).lt
      refine (hP k q h2).kept (hk q.1 hlt (fun h => ?_))
      rcases h with ⟨k2, e, h⟩ | h
      · have hk2 : k2 < isC.length := by
          have := (List.getElem?_eq_some_iff.mp h).1
          omega
        obtain ⟨qc, h3, h4⟩ := hcell k2 isC[k2] (List.getElem?_eq_getElem hk2)
        rw [h] at h3
        obtain rfl := Option.some.inj h3
        have := hD.1 k isC[k2] q (q.1, e) h2 h4 rfl
        exact hn (by rw [this]; exact List.getElem_mem hk2)
      · omega
  · obtain ⟨x0, h1, h2⟩ := hold i x hx
    obtain ⟨y0, h3, h4⟩ := hold j y hy
    exact hD.1 i j x0 y0 h1 h3 (by rw [h2, h4, hxy])
  · obtain ⟨q0, h1, h2⟩ := hold k q hq
    rw [← h2]
    exact hD.2 k q0 h1
section KROWS
variable {p : Program} {l : Launch} {e : Env} {R : Room} {s : State} {m : MethodId} {args : Array Value} {below : List Frame} {meth : Method} {c : Code} {H : Heap} {locs : List Loc} {cells slots : Nat} {Q : State → Prop}
variable {E : KE} {A : Nat → Prop} {w wc w1 w' : va_W} {ads : List Nat} {Ts ws ws' : List Cond} {cc bytes : ByteArray} {nL maxL index n pc : Nat} {own C : String} {y : MethodName} {ret : Option FieldType} {rm : Room} {As av rest st0 : List Value} {ls : Array Slot} {a : Array Value} {r : Int32} {b : Nat} {free : Nat → Prop}
theorem kpre (hE : EV E A s) (hP : va_P (kD E) vwCl w H) (hD : va_D A w) (hS : va_S A s.heap H locs) (hA : ∀ q, s.heap.size ≤ q → A q) (isC : List Nat) (hC : isC.map (fun i => w[i]?) = wc.map some) (hnd : va_nd isC = true) : ∀ U : State, U.heap = H → s.WarmedH U.vm → kPc E av wc H.size av.toArray U := by
  intro U hU hW
  have hPc : va_P (kD E) vwCl wc H := by
    intro k q hq
    have h1 : (isC.map (fun i => w[i]?))[k]? = some (some q) := by rw [hC, List.getElem?_map, hq]; rfl
    rw [List.getElem?_map] at h1
    cases hi : isC[k]? with
    | none => rw [hi] at h1; cases h1
    | some i => rw [hi] at h1; exact hP i q (Option.some.inj h1)
  exact ⟨rfl, by rw [hU], by rw [hU]; exact hPc, (hD.sub isC hnd hC).weaken (fun _ _ _ _ => trivial), hE.to hS (va_free hD hS hA isC hC) hU hW⟩
theorem kci (hr : va_Run p l e R s m args below meth c H locs cells slots 0 0 (F0 m pc ls st0) rest (kQi E wc w1 r H.size a) (va_A wc H.size)) (hP : va_P (kD E) vwCl w H) (hD : va_D A w) (hS : va_S A s.heap H locs) (hA : ∀ q, s.heap.size ≤ q → A q) (isC : List Nat) (hC : isC.map (fun i => w[i]?) = wc.map some) (had1 : w1.map (·.1) = ads) (had2 : wc.map (·.1) = ads) (hW : kset w isC w1 = w')
    (kk : ∀ (H1 : Heap) (locs1 : List Loc), va_P (kD E) vwCl w' H1 → va_D A w' → va_S A s.heap H1 locs1 → W p l e R s m args below meth c H1 locs1 cells slots Q (F0 m (pc + 3) ls (.int r :: rest))) : W p l e R s m args below meth c H locs cells slots Q (F0 m pc ls st0) := by
  have hF := va_free hD hS hA isC hC
  refine va_calli hr hS (fun q _ h => hF q h) hF (fun r' u t H1 locs1 ht hvm hpost hB hsz hk hS1 => ?_)
  obtain rfl : r' = r := hpost
  have hB' : va_P (kD E) vwCl w1 H1 := ht ▸ hB
  obtain ⟨h1, h2⟩ := kset_world hP hD isC hC had1 had2 hW hk hB'
  exact kk H1 locs1 h1 h2 hS1
theorem kcv (hr : va_Run p l e R s m args below meth c H locs cells slots 0 0 (F0 m pc ls st0) rest (kQv E wc w1 H.size a) (va_A wc H.size)) (hP : va_P (kD E) vwCl w H) (hD : va_D A w) (hS : va_S A s.heap H locs) (hA : ∀ q, s.heap.size ≤ q → A q) (isC : List Nat) (hC : isC.map (fun i => w[i]?) = wc.map some) (had1 : w1.map (·.1) = ads) (had2 : wc.map (·.1) = ads) (hW : kset w isC w1 = w')
    (kk : ∀ (H1 : Heap) (locs1 : List Loc), va_P (kD E) vwCl w' H1 → va_D A w' → va_S A s.heap H1 locs1 → W p l e R s m args below meth c H1 locs1 cells slots Q (F0 m (pc + 3) ls rest)) : W p l e R s m args below meth c H locs cells slots Q (F0 m pc ls st0) := by
  have hF := va_free hD hS hA isC hC
  refine va_callv hr hS (fun q _ h => hF q h) hF (fun u t H1 locs1 ht hvm hpost hB hsz hk hS1 => ?_)
  have hB' : va_P (kD E) vwCl w1 H1 := ht ▸ hB
  obtain ⟨h1, h2⟩ := kset_world hP hD isC hC had1 had2 hW hk hB'
  exact kk H1 locs1 h1 h2 hS1
variable {ci : Nat} {fs : List Value} {cq : vw_C}
theorem kciV (hM : KI l E y ws rm (.ref b :: As) wc w1 r) (S : CallFix p m c cc nL s args Ts own) (cw : CallW R s args own C index y bytes maxL ret ws rm 0 0 n) (hE : EV E A s) (hP : va_P (kD E) vwCl w H) (hD : va_D A w) (hS : va_S A s.heap H locs) (hA : ∀ q, s.heap.size ≤ q → A q) (isC : List Nat) (hnd : va_nd isC = true) (hC : isC.map (fun i => w[i]?) = wc.map some) (had1 : w1.map (·.1) = ads) (had2 : wc.map (·.1) = ads) (hW : kset w isC w1 = w') (hrv : wc[0]? = some (b, .inr (ci, fs))) (hcl : vwCl[ci]? = some cq) (hcq : cq.1 = C)
    (hn : As.length = n) (hsz : ls.size = nL) (hst : st0 = As.reverse ++ .ref b :: rest) (hrm : (rest.map fun v => v.category).sum ≤ 8) (hdg : decode cc pc = .ok (.invokevirtual index, 3)) (hf : cells + 0 ≤ R.cells ∧ slots + 0 ≤ R.slots)
    (kk : ∀ (H1 : Heap) (locs1 : List Loc), va_P (kD E) vwCl w' H1 → va_D A w' → va_S A s.heap H1 locs1 → W p l e R s m args below meth c H1 locs1 cells slots Q (F0 m (pc + 3) ls (.int r :: rest))) : W p l e R s m args below meth c H locs cells slots Q (F0 m pc ls st0) := by
  have hpre := kpre (av := .ref b :: As) hE hP hD hS hA isC hC hnd
  have hrc := va_recv hE.1 (show va_P (kD E) vwCl wc H from fun k q hq => by
    have h1 : (isC.map (fun i => w[i]?))[k]? = some (some q) := by rw [hC, List.getElem?_map, hq]; rfl
    rw [List.getElem?_map] at h1
    cases hi : isC[k]? with
    | none => rw [hi] at h1; cases h1
    | some i => rw [hi] at h1; exact hP i q (Option.some.inj h1)) hcl hrv
  rw [hcq] at hrc
  exact kci (va_runV S (hM H.size) cw ⟨kPc.blind, hrc, hpre⟩ rfl hn hsz hst (lv_room hrm) hdg hf) hP hD hS hA isC hC had1 had2 hW kk
theorem kcvV (hM : KV l E y ws rm (.ref b :: As) wc w1) (S : CallFix p m c cc nL s args Ts own) (cw : CallW R s args own C index y bytes maxL ret ws rm 0 0 n) (hE : EV E A s) (hP : va_P (kD E) vwCl w H) (hD : va_D A w) (hS : va_S A s.heap H locs) (hA : ∀ q, s.heap.size ≤ q → A q) (isC : List Nat) (hnd : va_nd isC = true) (hC : isC.map (fun i => w[i]?) = wc.map some) (had1 : w1.map (·.1) = ads) (had2 : wc.map (·.1) = ads) (hW : kset w isC w1 = w') (hrv : wc[0]? = some (b, .inr (ci, fs))) (hcl : vwCl[ci]? = some cq) (hcq : cq.1 = C)
    (hn : As.length = n) (hsz : ls.size = nL) (hst : st0 = As.reverse ++ .ref b :: rest) (hrm : (rest.map fun v => v.category).sum ≤ 8) (hdg : decode cc pc = .ok (.invokevirtual index, 3)) (hf : cells + 0 ≤ R.cells ∧ slots + 0 ≤ R.slots)
    (kk : ∀ (H1 : Heap) (locs1 : List Loc), va_P (kD E) vwCl w' H1 → va_D A w' → va_S A s.heap H1 locs1 → W p l e R s m args below meth c H1 locs1 cells slots Q (F0 m (pc + 3) ls rest)) : W p l e R s m args below meth c H locs cells slots Q (F0 m pc ls st0) := by
  have hpre := kpre (av := .ref b :: As) hE hP hD hS hA isC hC hnd
  have hrc := va_recv hE.1 (show va_P (kD E) vwCl wc H from fun k q hq => by
    have h1 : (isC.map (fun i => w[i]?))[k]? = some (some q) := by rw [hC, List.getElem?_map, hq]; rfl
    rw [List.getElem?_map] at h1
    cases hi : isC[k]? with
    | none => rw [hi] at h1; cases h1
    | some i => rw [hi] at h1; exact hP i q (Option.some.inj h1)) hcl hrv
  rw [hcq] at hrc
  exact kcv (va_runV S (hM H.size) cw ⟨kPc.blind, hrc, hpre⟩ rfl hn hsz hst (lv_room hrm) hdg hf) hP hD hS hA isC hC had1 had2 hW kk
theorem kciS (hM : KI l E y ws rm As wc w1 r) (S : CallFix p m c cc nL s args Ts own) (cw : CallB R s args own index y bytes maxL ret ws rm 0 0 n ∧ (Cond.static y).before args s = true) (hE : EV E A s) (hP : va_P (kD E) vwCl w H) (hD : va_D A w) (hS : va_S A s.heap H locs) (hA : ∀ q, s.heap.size ≤ q → A q) (isC : List Nat) (hnd : va_nd isC = true) (hC : isC.map (fun i => w[i]?) = wc.map some) (had1 : w1.map (·.1) = ads) (had2 : wc.map (·.1) = ads) (hW : kset w isC w1 = w')
    (hn : As.length = n) (hsz : ls.size = nL) (hst : st0 = As.reverse ++ rest) (hrm : (rest.map fun v => v.category).sum ≤ 8) (hdg : decode cc pc = .ok (.invokestatic index, 3)) (hf : cells + 0 ≤ R.cells ∧ slots + 0 ≤ R.slots)
    (kk : ∀ (H1 : Heap) (locs1 : List Loc), va_P (kD E) vwCl w' H1 → va_D A w' → va_S A s.heap H1 locs1 → W p l e R s m args below meth c H1 locs1 cells slots Q (F0 m (pc + 3) ls (.int r :: rest))) : W p l e R s m args below meth c H locs cells slots Q (F0 m pc ls st0) :=
  kci (va_runS S (hM H.size) cw ⟨kPc.blind, kpre hE hP hD hS hA isC hC hnd⟩ rfl hn hsz hst (lv_room hrm) hdg hf) hP hD hS hA isC hC had1 had2 hW kk
theorem kcvS (hM : KV l E y ws rm As wc w1) (S : CallFix p m c cc nL s args Ts own) (cw : CallB R s args own index y bytes maxL ret ws rm 0 0 n ∧ (Cond.static y).before args s = true) (hE : EV E A s) (hP : va_P (kD E) vwCl w H) (hD : va_D A w) (hS : va_S A s.heap H locs) (hA : ∀ q, s.heap.size ≤ q → A q) (isC : List Nat) (hnd : va_nd isC = true) (hC : isC.map (fun i => w[i]?) = wc.map some) (had1 : w1.map (·.1) = ads) (had2 : wc.map (·.1) = ads) (hW : kset w isC w1 = w')
    (hn : As.length = n) (hsz : ls.size = nL) (hst : st0 = As.reverse ++ rest) (hrm : (rest.map fun v => v.category).sum ≤ 8) (hdg : decode cc pc = .ok (.invokestatic index, 3)) (hf : cells + 0 ≤ R.cells ∧ slots + 0 ≤ R.slots)
    (kk : ∀ (H1 : Heap) (locs1 : List Loc), va_P (kD E) vwCl w' H1 → va_D A w' → va_S A s.heap H1 locs1 → W p l e R s m args below meth c H1 locs1 cells slots Q (F0 m (pc + 3) ls rest)) : W p l e R s m args below meth c H locs cells slots Q (F0 m pc ls st0) :=
  kcv (va_runS S (hM H.size) cw ⟨kPc.blind, kpre hE hP hD hS hA isC hC hnd⟩ rfl hn hsz hst (lv_room hrm) hdg hf) hP hD hS hA isC hC had1 had2 hW kk
theorem kciN {host : String} (hM : KI l E y ws rm As wc w1 r) (S : CallFix p m c cc nL s args Ts own) (cw : va_CN R s args own index y host bytes maxL ret ws rm 0 0 n ∧ (Cond.static y).before args s = true ∧ True) (hE : EV E A s) (hP : va_P (kD E) vwCl w H) (hD : va_D A w) (hS : va_S A s.heap H locs) (hA : ∀ q, s.heap.size ≤ q → A q) (isC : List Nat) (hnd : va_nd isC = true) (hC : isC.map (fun i => w[i]?) = wc.map some) (had1 : w1.map (·.1) = ads) (had2 : wc.map (·.1) = ads) (hW : kset w isC w1 = w')
    (hn : As.length = n) (hsz : ls.size = nL) (hst : st0 = As.reverse ++ rest) (hrm : (rest.map fun v => v.category).sum ≤ 8) (hdg : decode cc pc = .ok (.invokestatic index, 3)) (hf : cells + 0 ≤ R.cells ∧ slots + 0 ≤ R.slots)
    (kk : ∀ (H1 : Heap) (locs1 : List Loc), va_P (kD E) vwCl w' H1 → va_D A w' → va_S A s.heap H1 locs1 → W p l e R s m args below meth c H1 locs1 cells slots Q (F0 m (pc + 3) ls (.int r :: rest))) : W p l e R s m args below meth c H locs cells slots Q (F0 m pc ls st0) :=
  kci (va_runSN S (hM H.size) cw ⟨kPc.blind, kpre hE hP hD hS hA isC hC hnd⟩ rfl hn hsz hst (lv_room hrm) hdg hf) hP hD hS hA isC hC had1 had2 hW kk
theorem kcvN {host : String} (hM : KV l E y ws rm As wc w1) (S : CallFix p m c cc nL s args Ts own) (cw : va_CN R s args own index y host bytes maxL ret ws rm 0 0 n ∧ (Cond.static y).before args s = true ∧ True) (hE : EV E A s) (hP : va_P (kD E) vwCl w H) (hD : va_D A w) (hS : va_S A s.heap H locs) (hA : ∀ q, s.heap.size ≤ q → A q) (isC : List Nat) (hnd : va_nd isC = true) (hC : isC.map (fun i => w[i]?) = wc.map some) (had1 : w1.map (·.1) = ads) (had2 : wc.map (·.1) = ads) (hW : kset w isC w1 = w')
    (hn : As.length = n) (hsz : ls.size = nL) (hst : st0 = As.reverse ++ rest) (hrm : (rest.map fun v => v.category).sum ≤ 8) (hdg : decode cc pc = .ok (.invokestatic index, 3)) (hf : cells + 0 ≤ R.cells ∧ slots + 0 ≤ R.slots)
    (kk : ∀ (H1 : Heap) (locs1 : List Loc), va_P (kD E) vwCl w' H1 → va_D A w' → va_S A s.heap H1 locs1 → W p l e R s m args below meth c H1 locs1 cells slots Q (F0 m (pc + 3) ls rest)) : W p l e R s m args below meth c H locs cells slots Q (F0 m pc ls st0) :=
  kcv (va_runSN S (hM H.size) cw ⟨kPc.blind, kpre hE hP hD hS hA isC hC hnd⟩ rfl hn hsz hst (lv_room hrm) hdg hf) hP hD hS hA isC hC had1 had2 hW kk
/-- what a walk of an int method is given at its entry -/
theorem kmetI {ty : FieldType} {T : Type} {out : T} {wf : T → va_W} {rf : T → Int32} (hy : plainName y.cls = true) (hw : ws = Cond.code y cc maxL (some ty) :: ws') (hav : (lg_sl av).length ≤ maxL)
    (body : ∀ (p : Program) (e : Env) (s : State) (m : MethodId) (args : Array Value) (below : List Frame) (meth : Method) (c : Code) (A : Nat → Prop) (Q : State → Prop) (ls : Array Slot), p.tables.exec = Jvm.exec → c.code = cc → c.maxLocals = maxL → (∀ w ∈ ws, w.before args s = true) → s.vm.findClass y.cls = some m.cls → EV E A s → va_P (kD E) vwCl w s.heap → va_D A w → va_S A s.heap s.heap [] → (∀ q, s.heap.size ≤ q → A q) → lv_has ls maxL (lv_args 0 av) →
      (∀ (pc : Nat) (v : Int32) (o : T) (H : Heap) (locs : List Loc) (ls : Array Slot), o = out → v = rf o → narrow ty (.int v) = .int v → va_P (kD E) vwCl (wf o) H → va_S A s.heap H locs → decode cc pc = .ok (.ireturn, 1) → W p l e rm s m args below meth c H locs 0 0 Q (F0 m pc ls [.int v])) → W p l e rm s m args below meth c s.heap [] 0 0 Q (F0 m 0 ls [])) : KI l E y ws rm av w (wf out) (rf out) := by
  intro sz
  refine Met.ofW (cc := cc) (maxL := maxL) (ret := some ty) hy hw ?_
  intro p e s m args below meth c s₁ B hml hv
  obtain ⟨rfl, hsz, hP, hD0, hE⟩ := hv
  have hts := atoms_spec (ws := ws) B.pre
  have hlocks := B.notSynchronized
  subst hsz
  have hl := lv_entry av (n := maxL) hav
  rw [lg_entry_eq]
  refine body p e s m _ below meth c (va_A w s.heap.size) _ _ B.exec B.bytes hml hts (findClass_of_methodNamed B.named) hE hP hD0.self va_S.rf (fun q h => Or.inr h) hl ?_
  intro pc v o H locs ls ho hv hn hP1 hS1 hdg
  subst ho
  exact W.zret B.exec B.bytes B.returns hn (fun t ht _ => ⟨⟨v, (), rfl, hv, by show va_P (kD E) vwCl (wf o) t.heap; rw [ht]; exact hP1⟩, hS1.F ht⟩) hS1.2.2 hdg
theorem kmetV {T : Type} {out : T} {wf : T → va_W} (hy : plainName y.cls = true) (hw : ws = Cond.code y cc maxL none :: ws') (hav : (lg_sl av).length ≤ maxL)
    (body : ∀ (p : Program) (e : Env) (s : State) (m : MethodId) (args : Array Value) (below : List Frame) (meth : Method) (c : Code) (A : Nat → Prop) (Q : State → Prop) (ls : Array Slot), p.tables.exec = Jvm.exec → c.code = cc → c.maxLocals = maxL → (∀ w ∈ ws, w.before args s = true) → s.vm.findClass y.cls = some m.cls → EV E A s → va_P (kD E) vwCl w s.heap → va_D A w → va_S A s.heap s.heap [] → (∀ q, s.heap.size ≤ q → A q) → lv_has ls maxL (lv_args 0 av) →
      (∀ (pc : Nat) (o : T) (H : Heap) (locs : List Loc) (ls : Array Slot), o = out → va_P (kD E) vwCl (wf o) H → va_S A s.heap H locs → decode cc pc = .ok (.return_, 1) → W p l e rm s m args below meth c H locs 0 0 Q (F0 m pc ls [])) → W p l e rm s m args below meth c s.heap [] 0 0 Q (F0 m 0 ls [])) : KV l E y ws rm av w (wf out) := by
  intro sz
  refine Met.ofW (cc := cc) (maxL := maxL) (ret := none) hy hw ?_
  intro p e s m args below meth c s₁ B hml hv
  obtain ⟨rfl, hsz, hP, hD0, hE⟩ := hv
  have hts := atoms_spec (ws := ws) B.pre
  have hlocks := B.notSynchronized
  subst hsz
  have hl := lv_entry av (n := maxL) hav
  rw [lg_entry_eq]
  refine body p e s m _ below meth c (va_A w s.heap.size) _ _ B.exec B.bytes hml hts (findClass_of_methodNamed B.named) hE hP hD0.self va_S.rf (fun q h => Or.inr h) hl ?_
  intro pc o H locs ls ho hP1 hS1 hdg
  subst ho
  exact W.vret B.exec B.bytes B.returns (fun t ht _ => ⟨⟨(), rfl, trivial, by show va_P (kD E) vwCl (wf o) t.heap; rw [ht]; exact hP1⟩, hS1.F ht⟩) hS1.2.2 hdg
end KROWS

theorem kbind {α β : Type} {x : Option α} {f : α → Option β} {b : β} (h : x.bind f = some b) : ∃ a, x = some a ∧ f a = some b := Option.bind_eq_some_iff.mp h
theorem knone {α : Type} {x : α} (h : (none : Option α) = some x) : False := by cases h
theorem kinc (x : Int32) {n : Int} {v : Int32} (h : Int32.ofInt n = v) : x + Int32.ofInt n = x + v := by rw [h]
theorem knar {v : Int32} (h : v = 0 ∨ v = 1) : narrow .boolean (.int v) = .int v := by rcases h with rfl | rfl <;> rfl
theorem kguard {x : Int32} {n : Nat} (h0 : ¬ x < 0) (h1 : ¬ Int32.ofNat n ≤ x) (hn : n < 2 ^ 31) : ¬ (x < 0 ∨ n ≤ x.toNatClampNeg) := by
  obtain ⟨j, hj, rfl⟩ := nI_of h0
  rw [nI_clamp hj]
  intro h
  rcases h with h | h
  · exact h0 h
  · exact h1 (nI_le h hj)
theorem kI_eq {x y : Int32} (h : x.toInt = y.toInt) : x = y := Int32.toInt_inj.mp h
theorem ktab2 {x : Int32} (h0 : ¬ x = iI 0) (h1 : ¬ x = iI 1) (h2 : ¬ x = iI 2) : x.toInt < 0 ∨ (2 : Int) < x.toInt := by
  have a0 : x.toInt ≠ 0 := fun h => h0 (kI_eq h)
  have a1 : x.toInt ≠ 1 := fun h => h1 (kI_eq h)
  have a2 : x.toInt ≠ 2 := fun h => h2 (kI_eq h)
  omega
theorem ktab6 {x : Int32} (h0 : ¬ x = iI 0) (h1 : ¬ x = iI 1) (h2 : ¬ x = iI 2) (h3 : ¬ x = iI 3) (h4 : ¬ x = iI 4) (h5 : ¬ x = iI 5) (h6 : ¬ x = iI 6) : x.toInt < 0 ∨ (6 : Int) < x.toInt := by
  have a0 : x.toInt ≠ 0 := fun h => h0 (kI_eq h)
  have a1 : x.toInt ≠ 1 := fun h => h1 (kI_eq h)
  have a2 : x.toInt ≠ 2 := fun h => h2 (kI_eq h)
  have a3 : x.toInt ≠ 3 := fun h => h3 (kI_eq h)
  have a4 : x.toInt ≠ 4 := fun h => h4 (kI_eq h)
  have a5 : x.toInt ≠ 5 := fun h => h5 (kI_eq h)
  have a6 : x.toInt ≠ 6 := fun h => h6 (kI_eq h)
  omega
section KROWS2
variable {p : Program} {l : Launch} {e : Env} {R : Room} {s : State} {m : MethodId} {args : Array Value} {below : List Frame} {meth : Method} {c : Code} {H : Heap} {locs : List Loc} {cells slots : Nat} {Q : State → Prop}
variable {E : KE} {A : Nat → Prop} {ws wc w1 w' : va_W} {Ts ws0 : List Cond} {cc bytes : ByteArray} {nL maxL index n pc : Nat} {own C : String} {y : MethodName} {ret : Option FieldType} {rm : Room} {As av rest st0 : List Value} {ls : Array Slot} {r : Int32} {a b : Nat} {H0 : Heap}
theorem kput (hexec : p.tables.exec = Jvm.exec) (hb : c.code = cc) {own ref C : String} {T : u_T} {N ci index : Nat} {Ts : List Cond} (hts : ∀ w ∈ Ts, w.before args s = true) (hin : ∀ w ∈ u_ws C T N, w ∈ Ts) (ty0 : Nat → FieldType) (hty : ∀ k, k < N → parseFieldDescriptor (T k).2.2.1 = some (ty0 k)) (hnm : ∀ a, a < N → ∀ b, b < N → a ≠ b → (T a).2.1 ≠ (T b).2.1) (hown : s.vm.findClass own = some m.cls) (hK : va_K (kD E) vwCl (kT E) s) (hP : va_P (kD E) vwCl ws H) (hD : va_D A ws) (hS0 : va_S A H0 H locs) (q0 : Nat) {fs : List Value} (he : ws[q0]? = some (a, .inr (ci, fs))) (hc : vwCl[ci]? = some (C, T, N)) (k : Nat) (hk : k < N) (hlink : (Cond.fieldLink own index ref (T k).2.1 (T k).2.2.1).before args s = true) (hsame : ∀ x, s.fieldFound? (T k).1 (T k).2.1 (T k).2.2.1 = some x → s.fieldFound? ref (T k).2.1 (T k).2.2.1 = some x) (hfin : (T k).2.2.2 = false) {ty : FieldType} {v : Value} (hd : parseFieldDescriptor (T k).2.2.1 = some ty) (hn : narrow ty v = v) (hfit : fits ty v = true) (hl : k < fs.length) (hw : ws.set q0 (a, .inr (ci, fs.set k v)) = w')
    (hdg : decode cc pc = .ok (.putfield index, 3)) (kk : ∀ (H1 : Heap) (locs1 : List Loc), va_P (kD E) vwCl w' H1 → va_D A w' → va_S A H0 H1 locs1 → W p l e R s m args below meth c H1 locs1 cells slots Q (F0 m (pc + 3) ls rest)) : W p l e R s m args below meth c H locs cells slots Q (F0 m pc ls (v :: .ref a :: rest)) := by
  subst hw
  exact va_put hexec hb hts hin ty0 hty hnm hown hK hP hD hS0 q0 he hc k hk hlink hsame hfin hd hn hfit hl hdg kk
theorem kputN (hexec : p.tables.exec = Jvm.exec) (hb : c.code = cc) {own ref C host : String} {T : u_T} {N ci index : Nat} {Ts : List Cond} (hts : ∀ w ∈ Ts, w.before args s = true) (hin : ∀ w ∈ u_ws C T N, w ∈ Ts) (ty0 : Nat → FieldType) (hty : ∀ k, k < N → parseFieldDescriptor (T k).2.2.1 = some (ty0 k)) (hnm : ∀ a, a < N → ∀ b, b < N → a ≠ b → (T a).2.1 ≠ (T b).2.1) (hown : s.vm.findClass own = some m.cls) (hK : va_K (kD E) vwCl (kT E) s) (hP : va_P (kD E) vwCl ws H) (hD : va_D A ws) (hS0 : va_S A H0 H locs) (q0 : Nat) {fs : List Value} (he : ws[q0]? = some (a, .inr (ci, fs))) (hc : vwCl[ci]? = some (C, T, N)) (k : Nat) (hk : k < N) (hlink : (Cond.fieldLinkNest own index ref (T k).2.1 (T k).2.2.1 host).before args s = true) (hsame : ∀ x, s.fieldFound? (T k).1 (T k).2.1 (T k).2.2.1 = some x → s.fieldFound? ref (T k).2.1 (T k).2.2.1 = some x) (hfin : (T k).2.2.2 = false) {ty : FieldType} {v : Value} (hd : parseFieldDescriptor (T k).2.2.1 = some ty) (hn : narrow ty v = v) (hfit : fits ty v = true) (hl : k < fs.length) (hw : ws.set q0 (a, .inr (ci, fs.set k v)) = w')
    (hdg : decode cc pc = .ok (.putfield index, 3)) (kk : ∀ (H1 : Heap) (locs1 : List Loc), va_P (kD E) vwCl w' H1 → va_D A w' → va_S A H0 H1 locs1 → W p l e R s m args below meth c H1 locs1 cells slots Q (F0 m (pc + 3) ls rest)) : W p l e R s m args below meth c H locs cells slots Q (F0 m pc ls (v :: .ref a :: rest)) := by
  subst hw
  exact va_putN hexec hb hts hin ty0 hty hnm hown hK hP hD hS0 q0 he hc k hk hlink hsame hfin hd hn hfit hl hdg kk
theorem kiast (hexec : p.tables.exec = Jvm.exec) (hb : c.code = cc) (hK : va_K (kD E) vwCl (kT E) s) (hP : va_P (kD E) vwCl ws H) (hD : va_D A ws) (hS : va_S A H0 H locs) (q0 : Nat) {n : Nat} {f : Nat → Int32} (ha : ws[q0]? = some (a, .inl (E.2.1.1, n, .inl f))) {i : Int32} {x : Int32} (hin : vp_in i n) (hw : ws.set q0 (a, .inl (E.2.1.1, n, .inl (upd f i.toNatClampNeg x))) = w') (hdg : decode cc pc = .ok (.iastore, 1))
    (kk : ∀ (H1 : Heap) (locs1 : List Loc), va_P (kD E) vwCl w' H1 → va_D A w' → va_S A H0 H1 locs1 → W p l e R s m args below meth c H1 locs1 cells slots Q (F0 m (pc + 1) ls rest)) : W p l e R s m args below meth c H locs cells slots Q (F0 m pc ls (.int x :: .int i :: .ref a :: rest)) := by
  subst hw
  exact va_iast hexec hb hK hP hD hS q0 0 ha rfl hin hdg kk
theorem kzast (hexec : p.tables.exec = Jvm.exec) (hb : c.code = cc) (hK : va_K (kD E) vwCl (kT E) s) (hP : va_P (kD E) vwCl ws H) (hD : va_D A ws) (hS : va_S A H0 H locs) (q0 : Nat) {n : Nat} {f : Nat → Int32} (ha : ws[q0]? = some (a, .inl (E.2.1.2, n, .inl f))) {i : Int32} {x : Int32} (hin : vp_in i n) (hw : ws.set q0 (a, .inl (E.2.1.2, n, .inl (upd f i.toNatClampNeg (vp_nar .boolean x)))) = w') (hdg : decode cc pc = .ok (.bastore, 1))
    (kk : ∀ (H1 : Heap) (locs1 : List Loc), va_P (kD E) vwCl w' H1 → va_D A w' → va_S A H0 H1 locs1 → W p l e R s m args below meth c H1 locs1 cells slots Q (F0 m (pc + 1) ls rest)) : W p l e R s m args below meth c H locs cells slots Q (F0 m pc ls (.int x :: .int i :: .ref a :: rest)) := by
  subst hw
  exact va_zast hexec hb hK hP hD hS q0 1 ha rfl hin hdg kk
theorem kcopy (hexec : p.tables.exec = Jvm.exec) (hb : c.code = cc) (hml : c.maxLocals = ls.size) {own : String} {index : Nat} (hown : s.vm.findClass own = some m.cls) (hlink : (Cond.methodLink own index arraycopyName).before args s = true) (hnat : (Cond.native arraycopyName).before args s = true) (hstat : (Cond.static arraycopyName).before args s = true) (hini : (Cond.initialized "java/lang/System").before args s = true)
    (hK : va_K (kD E) vwCl (kT E) s) (hP : va_P (kD E) vwCl ws H) (hD : va_D A ws) (hS : va_S A H0 H locs) (q0 q1 : Nat) {a0 : Nat} {n0 n1 : Nat} {f g : Nat → Int32} (ha0 : ws[q0]? = some (a0, .inl (E.2.1.1, n0, .inl f))) (ha1 : ws[q1]? = some (a, .inl (E.2.1.1, n1, .inl g)))
    {sp dp n : Int32} (h1 : ¬ sp < 0) (h2 : ¬ dp < 0) (h3 : ¬ n < 0) (h4 : sp.toNatClampNeg + n.toNatClampNeg ≤ n0) (h5 : dp.toNatClampNeg + n.toNatClampNeg ≤ n1) (hframes : 1 ≤ R.frames) (hlocals : (rest.map fun v => v.category).sum + (nativeFrameWords "java/lang/System" "arraycopy" 5 + 11) ≤ R.locals) (hw : ws.set q1 (a, .inl (E.2.1.1, n1, .inl (va_cpy f g sp.toNatClampNeg dp.toNatClampNeg n.toNatClampNeg))) = w') (hdg : decode cc pc = .ok (.invokestatic index, 3))
    (kk : ∀ (H1 : Heap) (locs1 : List Loc), va_P (kD E) vwCl w' H1 → va_D A w' → va_S A H0 H1 locs1 → W p l e R s m args below meth c H1 locs1 cells slots Q (F0 m (pc + 3) ls rest)) : W p l e R s m args below meth c H locs cells slots Q (F0 m pc ls (.int n :: .int dp :: .ref a :: .int sp :: .ref a0 :: rest)) := by
  subst hw
  exact va_copyi hexec hb hml hown hlink hnat hstat hini hK hP hD hS q0 q1 0 0 ha0 ha1 rfl rfl rfl h1 h2 h3 h4 h5 (fun _ _ => rfl) hframes hlocals hdg kk
theorem kciVs {i : Nat} (hi : i < 6) (hM : KI l E y ws0 rm (.ref (E.2.2.1 i) :: As) [] [] r) (S : CallFix p m c cc nL s args Ts own) (cw : CallW R s args own RJ0 index y bytes maxL ret ws0 rm 0 0 n) (hE : EV E A s) (hP : va_P (kD E) vwCl ws H) (hD : va_D A ws) (hS : va_S A s.heap H locs) (hA : ∀ q, s.heap.size ≤ q → A q)
    (hn : As.length = n) (hsz : ls.size = nL) (hst : st0 = As.reverse ++ .ref (E.2.2.1 i) :: rest) (hrm : (rest.map fun v => v.category).sum ≤ 8) (hdg : decode cc pc = .ok (.invokevirtual index, 3)) (hf : cells + 0 ≤ R.cells ∧ slots + 0 ≤ R.slots)
    (kk : ∀ (H1 : Heap) (locs1 : List Loc), va_P (kD E) vwCl ws H1 → va_D A ws → va_S A s.heap H1 locs1 → W p l e R s m args below meth c H1 locs1 cells slots Q (F0 m (pc + 3) ls (.int r :: rest))) : W p l e R s m args below meth c H locs cells slots Q (F0 m pc ls st0) := by
  have hpre := kpre (wc := []) (av := .ref (E.2.2.1 i) :: As) hE hP hD hS hA [] rfl rfl
  exact kci (wc := []) (w1 := []) (va_runV S (hM H.size) cw ⟨kPc.blind, vk_recv hE.2.2.1 hi hS, hpre⟩ rfl hn hsz hst (lv_room hrm) hdg hf) hP hD hS hA [] (ads := []) rfl rfl rfl rfl kk
end KROWS2
theorem kShr0 (x : Int32) : x >>> ((0 : Int32) &&& 31) = x := sb_shr0 x
theorem kLen_lt : ∀ i, i < 6 → kLen.getD i 0 < 2 ^ 31 := by decide
theorem kTx_0 : ((60, "line", 0) : Nat × String × Nat) ∈ kTx := by decide
theorem kTx_1 : ((54, ";", 1) : Nat × String × Nat) ∈ kTx := by decide
theorem kTx_2 : ((77, "at", 2) : Nat × String × Nat) ∈ kTx := by decide
theorem kTx_3 : ((83, "after", 3) : Nat × String × Nat) ∈ kTx := by decide
theorem kTx_4 : ((87, "and", 4) : Nat × String × Nat) ∈ kTx := by decide
theorem kTx_5 : ((89, "with", 5) : Nat × String × Nat) ∈ kTx := by decide

abbrev rmJ0_coder_7d493 : Room := { frames := 0, cells := 0, slots := 0, locals := 0 }
set_option maxHeartbeats 4000000 in
set_option maxRecDepth 100000 in
theorem kJ0_coder_7d493 (l : Launch) (E : KE) {i : Nat} (hi : i < 6) : KI l E yJ0_coder_7d493 wsJ0_coder_7d493 rmJ0_coder_7d493 [.ref (E.2.2.1 i)] [] [] (0) := by
  refine kmetI (T := Unit) (out := ()) (wf := fun _ => []) (rf := fun _ => 0) (cc := cJ0_coder_7d493) (maxL := 1) (ty := .byte) (by decide) rfl (Nat.le_of_ble_eq_true rfl) ?_
  intro p e s m args below meth c A Q ls hx hb hml hts hown hE hP hD hS hA hl hret
  have hown : s.vm.findClass RJ0 = some m.cls := hown
  have hZ := hE.2.2
  have hl : lv_has ls 1 [(0, .ref (E.2.2.1 i))] := hl
  refine va_gets hx hb hZ.2.2.1 hS hown (hts (.fieldLink RJ0 38 "java/lang/String" "COMPACT_STRINGS" "Z") (by decide +kernel)) (fun _ h => h) dJ0_coder_7d493_0 ?_
  refine lv_if_eq (tgt := 13) hx hb dJ0_coder_7d493_3 (by decide) (fun c => absurd c (by decide)) (fun _ => ?_)
  refine lv_aload_n hx hb dJ0_coder_7d493_6 rfl (lv_at hl 0 rfl) ?_
  refine vk_getf hx hb (hZ.1.1 i hi).2.1 hS hown (hts (.fieldLink RJ0 15 "java/lang/String" "coder" "B") (by decide +kernel)) (fun _ h => h) dJ0_coder_7d493_7 ?_
  refine lv_goto (tgt := 14) hx hb dJ0_coder_7d493_10 (by decide) ?_
  exact hret _ _ _ _ _ _ rfl rfl rfl hP hS dJ0_coder_7d493_14
abbrev rmJ0_length_8abf5 : Room := { frames := 1, cells := 0, slots := 0, locals := 20 }
set_option maxHeartbeats 4000000 in
set_option maxRecDepth 100000 in
theorem kJ0_length_8abf5 (l : Launch) (E : KE) {i : Nat} (hi : i < 6) : KI l E yJ0_length_8abf5 wsJ0_length_8abf5 rmJ0_length_8abf5 [.ref (E.2.2.1 i)] [] [] (kSlen i) := by
  refine kmetI (T := Unit) (out := ()) (wf := fun _ => []) (rf := fun _ => kSlen i) (cc := cJ0_length_8abf5) (maxL := 1) (ty := .int) (by decide) rfl (Nat.le_of_ble_eq_true rfl) ?_
  intro p e s m args below meth c A Q ls hx hb hml hts hown hE hP hD hS hA hl hret
  have hown : s.vm.findClass RJ0 = some m.cls := hown
  have hZ := hE.2.2
  have hl : lv_has ls 1 [(0, .ref (E.2.2.1 i))] := hl
  refine lv_aload_n hx hb dJ0_length_8abf5_0 rfl (lv_at hl 0 rfl) ?_
  refine vk_getf hx hb (hZ.1.1 i hi).2.2.1 hS hown (hts (.fieldLink RJ0 9 "java/lang/String" "value" "[B") (by decide +kernel)) (fun _ h => h) dJ0_length_8abf5_1 ?_
  refine va_tlen hx hb (hZ.1.1 i hi).2.2.2 hS rfl dJ0_length_8abf5_4 ?_
  refine lv_aload_n hx hb dJ0_length_8abf5_5 rfl (lv_at hl 0 rfl) ?_
  refine kciVs (As := []) (rest := [.int (Int32.ofNat (kLen.getD i 0))]) (i := i) hi (kJ0_coder_7d493 l E hi) ⟨hx, hb, hml, hown, hts⟩ (cwV 0 hts gJ0_length_8abf5_J0_coder_7d493 rfl rfl rfl (by decide +kernel) ⟨by decide, by decide⟩) hE hP hD hS hA rfl hl.1 rfl (Nat.le_of_ble_eq_true rfl) dJ0_length_8abf5_6 ⟨Nat.zero_le _, Nat.zero_le _⟩ (fun H locs hP hD hS => ?_)
  refine lv_ishr hx hb dJ0_length_8abf5_9 ?_
  exact hret _ _ _ _ _ _ rfl (kShr0 _) rfl hP hS dJ0_length_8abf5_10
abbrev rmJ0_isLatin1_aae02 : Room := { frames := 0, cells := 0, slots := 0, locals := 0 }
set_option maxHeartbeats 4000000 in
set_option maxRecDepth 100000 in
theorem kJ0_isLatin1_aae02 (l : Launch) (E : KE) {i : Nat} (hi : i < 6) : KI l E yJ0_isLatin1_aae02 wsJ0_isLatin1_aae02 rmJ0_isLatin1_aae02 [.ref (E.2.2.1 i)] [] [] (1) := by
  refine kmetI (T := Unit) (out := ()) (wf := fun _ => []) (rf := fun _ => 1) (cc := cJ0_isLatin1_aae02) (maxL := 1) (ty := .boolean) (by decide) rfl (Nat.le_of_ble_eq_true rfl) ?_
  intro p e s m args below meth c A Q ls hx hb hml hts hown hE hP hD hS hA hl hret
  have hown : s.vm.findClass RJ0 = some m.cls := hown
  have hZ := hE.2.2
  have hl : lv_has ls 1 [(0, .ref (E.2.2.1 i))] := hl
  refine va_gets hx hb hZ.2.2.1 hS hown (hts (.fieldLink RJ0 38 "java/lang/String" "COMPACT_STRINGS" "Z") (by decide +kernel)) (fun _ h => h) dJ0_isLatin1_aae02_0 ?_
  refine lv_if_eq (tgt := 17) hx hb dJ0_isLatin1_aae02_3 (by decide) (fun c => absurd c (by decide)) (fun _ => ?_)
  refine lv_aload_n hx hb dJ0_isLatin1_aae02_6 rfl (lv_at hl 0 rfl) ?_
  refine vk_getf hx hb (hZ.1.1 i hi).2.1 hS hown (hts (.fieldLink RJ0 15 "java/lang/String" "coder" "B") (by decide +kernel)) (fun _ h => h) dJ0_isLatin1_aae02_7 ?_
  refine lv_if_ne (tgt := 17) hx hb dJ0_isLatin1_aae02_10 (by decide) (fun c => absurd rfl c) (fun _ => ?_)
  refine lv_iconst (v := 1) hx hb dJ0_isLatin1_aae02_13 (by decide) ?_
  refine lv_goto (tgt := 18) hx hb dJ0_isLatin1_aae02_14 (by decide) ?_
  exact hret _ _ _ _ _ _ rfl rfl rfl hP hS dJ0_isLatin1_aae02_18
abbrev rmJ3_checkIndex_8e157 : Room := { frames := 0, cells := 0, slots := 0, locals := 0 }
set_option maxHeartbeats 4000000 in
set_option maxRecDepth 100000 in
theorem kJ3_checkIndex_8e157_n (l : Launch) (E : KE) {x n : Int32} (h0 : ¬ x < 0) (h1 : x < n) : KI l E yJ3_checkIndex_8e157 wsJ3_checkIndex_8e157 rmJ3_checkIndex_8e157 [.int x, .int n, .null] [] [] x := by
  refine kmetI (T := Unit) (out := ()) (wf := fun _ => []) (rf := fun _ => x) (cc := cJ3_checkIndex_8e157) (maxL := 3) (ty := .int) (by decide) rfl (Nat.le_of_ble_eq_true rfl) ?_
  intro p e s m args below meth c A Q ls hx hb hml hts hown hE hP hD hS hA hl hret
  have hl : lv_has ls 3 [(0, .int x), (1, .int n), (2, .null)] := hl
  refine lv_iload_n hx hb dJ3_checkIndex_8e157_0 rfl (lv_at hl 0 rfl) ?_
  refine lv_if_lt (tgt := 9) hx hb dJ3_checkIndex_8e157_1 (by decide) (fun c => absurd c h0) (fun _ => ?_)
  refine lv_iload_n hx hb dJ3_checkIndex_8e157_4 rfl (lv_at hl 0 rfl) ?_
  refine lv_iload_n hx hb dJ3_checkIndex_8e157_5 rfl (lv_at hl 1 rfl) ?_
  refine lv_icmp_lt (tgt := 16) hx hb dJ3_checkIndex_8e157_6 (by decide) (fun _ => ?_) (fun c => absurd h1 c)
  refine lv_iload_n hx hb dJ3_checkIndex_8e157_16 rfl (lv_at hl 0 rfl) ?_
  exact hret _ _ _ _ _ _ rfl rfl rfl hP hS dJ3_checkIndex_8e157_17
set_option maxHeartbeats 4000000 in
set_option maxRecDepth 100000 in
theorem kJ3_checkIndex_8e157_r (l : Launch) (E : KE) {t : Nat} {x n : Int32} (h0 : ¬ x < 0) (h1 : x < n) : KI l E yJ3_checkIndex_8e157 wsJ3_checkIndex_8e157 rmJ3_checkIndex_8e157 [.int x, .int n, (.ref t)] [] [] x := by
  refine kmetI (T := Unit) (out := ()) (wf := fun _ => []) (rf := fun _ => x) (cc := cJ3_checkIndex_8e157) (maxL := 3) (ty := .int) (by decide) rfl (Nat.le_of_ble_eq_true rfl) ?_
  intro p e s m args below meth c A Q ls hx hb hml hts hown hE hP hD hS hA hl hret
  have hl : lv_has ls 3 [(0, .int x), (1, .int n), (2, .ref t)] := hl
  refine lv_iload_n hx hb dJ3_checkIndex_8e157_0 rfl (lv_at hl 0 rfl) ?_
  refine lv_if_lt (tgt := 9) hx hb dJ3_checkIndex_8e157_1 (by decide) (fun c => absurd c h0) (fun _ => ?_)
  refine lv_iload_n hx hb dJ3_checkIndex_8e157_4 rfl (lv_at hl 0 rfl) ?_
  refine lv_iload_n hx hb dJ3_checkIndex_8e157_5 rfl (lv_at hl 1 rfl) ?_
  refine lv_icmp_lt (tgt := 16) hx hb dJ3_checkIndex_8e157_6 (by decide) (fun _ => ?_) (fun c => absurd h1 c)
  refine lv_iload_n hx hb dJ3_checkIndex_8e157_16 rfl (lv_at hl 0 rfl) ?_
  exact hret _ _ _ _ _ _ rfl rfl rfl hP hS dJ3_checkIndex_8e157_17
abbrev rmJ0_checkIndex_df160 : Room := { frames := 1, cells := 0, slots := 0, locals := 22 }
set_option maxHeartbeats 4000000 in
set_option maxRecDepth 100000 in
theorem kJ0_checkIndex_df160 (l : Launch) (E : KE) {x n : Int32} (h0 : ¬ x < 0) (h1 : x < n) : KV l E yJ0_checkIndex_df160 wsJ0_checkIndex_df160 rmJ0_checkIndex_df160 [.int x, .int n] [] [] := by
  refine kmetV (T := Unit) (out := ()) (wf := fun _ => []) (cc := cJ0_checkIndex_df160) (maxL := 2) (by decide) rfl (Nat.le_of_ble_eq_true rfl) ?_
  intro p e s m args below meth c A Q ls hx hb hml hts hown hE hP hD hS hA hl hret
  have hown : s.vm.findClass RJ0 = some m.cls := hown
  have hZ := hE.2.2
  have hl : lv_has ls 2 [(0, .int x), (1, .int n)] := hl
  refine lv_iload_n hx hb dJ0_checkIndex_df160_0 rfl (lv_at hl 0 rfl) ?_
  refine lv_iload_n hx hb dJ0_checkIndex_df160_1 rfl (lv_at hl 1 rfl) ?_
  rcases hZ.2.2.2 with hq | ⟨t, hq⟩
  · refine va_gets hx hb hq hS hown (hts (.fieldLink RJ0 1053 "jdk/internal/util/Preconditions" "SIOOBE_FORMATTER" "Ljava/util/function/BiFunction;") (by decide +kernel)) (fun _ h => h) dJ0_checkIndex_df160_2 ?_
    refine kciS (l := l) (E := E) (wc := []) (w1 := []) (w' := []) (ads := []) (r := x) (As := [.int x, .int n, .null]) (rest := []) (kJ3_checkIndex_8e157_n l E h0 h1) ⟨hx, hb, hml, hown, hts⟩ (va_cwS 3 hts gJ0_checkIndex_df160_J3_checkIndex_8e157 rfl rfl rfl (by decide +kernel) ⟨by decide, by decide⟩) hE hP hD hS hA [] (by decide) rfl rfl rfl rfl rfl hl.1 rfl (Nat.le_of_ble_eq_true rfl) dJ0_checkIndex_df160_5 ⟨Nat.zero_le _, Nat.zero_le _⟩ (fun H locs hP hD hS => ?_)
    refine lv_pop hx hb dJ0_checkIndex_df160_8 rfl ?_
    exact hret _ () _ _ _ rfl hP hS dJ0_checkIndex_df160_9
  · refine va_gets hx hb hq hS hown (hts (.fieldLink RJ0 1053 "jdk/internal/util/Preconditions" "SIOOBE_FORMATTER" "Ljava/util/function/BiFunction;") (by decide +kernel)) (fun _ h => h) dJ0_checkIndex_df160_2 ?_
    refine kciS (l := l) (E := E) (wc := []) (w1 := []) (w' := []) (ads := []) (r := x) (As := [.int x, .int n, .ref t]) (rest := []) (kJ3_checkIndex_8e157_r l E h0 h1) ⟨hx, hb, hml, hown, hts⟩ (va_cwS 3 hts gJ0_checkIndex_df160_J3_checkIndex_8e157 rfl rfl rfl (by decide +kernel) ⟨by decide, by decide⟩) hE hP hD hS hA [] (by decide) rfl rfl rfl rfl rfl hl.1 rfl (Nat.le_of_ble_eq_true rfl) dJ0_checkIndex_df160_5 ⟨Nat.zero_le _, Nat.zero_le _⟩ (fun H locs hP hD hS => ?_)
    refine lv_pop hx hb dJ0_checkIndex_df160_8 rfl ?_
    exact hret _ () _ _ _ rfl hP hS dJ0_checkIndex_df160_9
abbrev rmJ1_charAt_3b067 : Room := { frames := 2, cells := 0, slots := 0, locals := 43 }
set_option maxHeartbeats 4000000 in
set_option maxRecDepth 100000 in
theorem kJ1_charAt_3b067 (l : Launch) (E : KE) {i : Nat} (hi : i < 6) {x : Int32} (hc : ¬ (x < 0 ∨ kLen.getD i 0 ≤ x.toNatClampNeg)) : KI l E yJ1_charAt_3b067 wsJ1_charAt_3b067 rmJ1_charAt_3b067 [.ref (E.2.2.2 i), .int x] [] [] (kSch i x) := by
  refine kmetI (T := Unit) (out := ()) (wf := fun _ => []) (rf := fun _ => kSch i x) (cc := cJ1_charAt_3b067) (maxL := 2) (ty := .char) (by decide) rfl (Nat.le_of_ble_eq_true rfl) ?_
  intro p e s m args below meth c A Q ls hx hb hml hts hown hE hP hD hS hA hl hret
  have hown : s.vm.findClass RJ1 = some m.cls := hown
  have hZ := hE.2.2
  have hl : lv_has ls 2 [(0, .ref (E.2.2.2 i)), (1, .int x)] := hl
  have h0 : ¬ x < 0 := fun h => hc (Or.inl h)
  have h1 : x < Int32.ofNat (kLen.getD i 0) := by
    obtain ⟨j, hj, rfl⟩ := vp_in_of (show vp_in x (kLen.getD i 0) from hc) (kLen_lt i hi)
    exact nI_lt hj (kLen_lt i hi)
  refine lv_iload_n hx hb dJ1_charAt_3b067_0 rfl (lv_at hl 1 rfl) ?_
  refine lv_aload_n hx hb dJ1_charAt_3b067_1 rfl (lv_at hl 0 rfl) ?_
  refine va_tlen hx hb (hZ.1.1 i hi).2.2.2 hS rfl dJ1_charAt_3b067_2 ?_
  refine kcvS (l := l) (E := E) (wc := []) (w1 := []) (w' := []) (ads := []) (As := [.int x, .int (Int32.ofNat (kLen.getD i 0))]) (rest := []) (kJ0_checkIndex_df160 l E h0 h1) ⟨hx, hb, hml, hown, hts⟩ (va_cwS 2 hts gJ1_charAt_3b067_J0_checkIndex_df160 rfl rfl rfl (by decide +kernel) ⟨by decide, by decide⟩) hE hP hD hS hA [] (by decide) rfl rfl rfl rfl rfl hl.1 rfl (Nat.le_of_ble_eq_true rfl) dJ1_charAt_3b067_3 ⟨Nat.zero_le _, Nat.zero_le _⟩ (fun H locs hP hD hS => ?_)
  refine lv_aload_n hx hb dJ1_charAt_3b067_6 rfl (lv_at hl 0 rfl) ?_
  refine lv_iload_n hx hb dJ1_charAt_3b067_7 rfl (lv_at hl 1 rfl) ?_
  refine va_tb hx hb (hZ.1.1 i hi).2.2.2 hS (show vp_in x _ from hc) (v := .int ((kByt.getD i []).getD x.toNatClampNeg 0)) rfl dJ1_charAt_3b067_8 ?_
  refine lv_sipush (v := 255) hx hb dJ1_charAt_3b067_9 (by decide) ?_
  refine lv_iand hx hb dJ1_charAt_3b067_12 ?_
  refine lv_i2c (v := kSch i x) hx hb dJ1_charAt_3b067_13 rfl ?_
  exact hret _ _ _ _ _ _ rfl rfl (pk_nc _) hP hS dJ1_charAt_3b067_14
abbrev rmJ0_charAt_5068e : Room := { frames := 3, cells := 0, slots := 0, locals := 66 }
set_option maxHeartbeats 4000000 in
set_option maxRecDepth 100000 in
theorem kJ0_charAt_5068e (l : Launch) (E : KE) {i : Nat} (hi : i < 6) {x : Int32} (hc : ¬ (x < 0 ∨ kLen.getD i 0 ≤ x.toNatClampNeg)) : KI l E yJ0_charAt_5068e wsJ0_charAt_5068e rmJ0_charAt_5068e [.ref (E.2.2.1 i), .int x] [] [] (kSch i x) := by
  refine kmetI (T := Unit) (out := ()) (wf := fun _ => []) (rf := fun _ => kSch i x) (cc := cJ0_charAt_5068e) (maxL := 2) (ty := .char) (by decide) rfl (Nat.le_of_ble_eq_true rfl) ?_
  intro p e s m args below meth c A Q ls hx hb hml hts hown hE hP hD hS hA hl hret
  have hown : s.vm.findClass RJ0 = some m.cls := hown
  have hZ := hE.2.2
  have hl : lv_has ls 2 [(0, .ref (E.2.2.1 i)), (1, .int x)] := hl
  refine lv_aload_n hx hb dJ0_charAt_5068e_0 rfl (lv_at hl 0 rfl) ?_
  refine kciVs (As := []) (rest := []) (i := i) hi (kJ0_isLatin1_aae02 l E hi) ⟨hx, hb, hml, hown, hts⟩ (cwV 0 hts gJ0_charAt_5068e_J0_isLatin1_aae02 rfl rfl rfl (by decide +kernel) ⟨by decide, by decide⟩) hE hP hD hS hA rfl hl.1 rfl (Nat.le_of_ble_eq_true rfl) dJ0_charAt_5068e_1 ⟨Nat.zero_le _, Nat.zero_le _⟩ (fun H locs hP hD hS => ?_)
  refine lv_if_eq (tgt := 16) hx hb dJ0_charAt_5068e_4 (by decide) (fun c => absurd c (by decide)) (fun _ => ?_)
  refine lv_aload_n hx hb dJ0_charAt_5068e_7 rfl (lv_at hl 0 rfl) ?_
  refine vk_getf hx hb (hZ.1.1 i hi).2.2.1 hS hown (hts (.fieldLink RJ0 9 "java/lang/String" "value" "[B") (by decide +kernel)) (fun _ h => h) dJ0_charAt_5068e_8 ?_
  refine lv_iload_n hx hb dJ0_charAt_5068e_11 rfl (lv_at hl 1 rfl) ?_
  refine kciS (l := l) (E := E) (wc := []) (w1 := []) (w' := []) (ads := []) (r := kSch i x) (As := [.ref (E.2.2.2 i), .int x]) (rest := []) (kJ1_charAt_3b067 l E hi hc) ⟨hx, hb, hml, hown, hts⟩ (va_cwS 2 hts gJ0_charAt_5068e_J1_charAt_3b067 rfl rfl rfl (by decide +kernel) ⟨by decide, by decide⟩) hE hP hD hS hA [] (by decide) rfl rfl rfl rfl rfl hl.1 rfl (Nat.le_of_ble_eq_true rfl) dJ0_charAt_5068e_12 ⟨Nat.zero_le _, Nat.zero_le _⟩ (fun H locs hP hD hS => ?_)
  exact hret _ _ _ _ _ _ rfl rfl (pk_nc _) hP hS dJ0_charAt_5068e_15
theorem nwm_0 {s : State} (h : NW s) : va_Nw (.methodLinkNest RX9 9 yX3_init "GaugeWeekend") s := h.m (q := (RX9, 9, yX3_init)) 0 rfl
theorem nwm_1 {s : State} (h : NW s) : va_Nw (.methodLinkNest RX3 11 yX1_init "GaugeWeekend") s := h.m (q := (RX3, 11, yX1_init)) 1 rfl
theorem nwm_2 {s : State} (h : NW s) : va_Nw (.methodLinkNest RX9 18 yX6_init "GaugeWeekend") s := h.m (q := (RX9, 18, yX6_init)) 2 rfl
theorem nwm_3 {s : State} (h : NW s) : va_Nw (.methodLinkNest RX9 25 yX4_init "GaugeWeekend") s := h.m (q := (RX9, 25, yX4_init)) 3 rfl
theorem nwm_4 {s : State} (h : NW s) : va_Nw (.methodLinkNest RX9 32 yX7_init "GaugeWeekend") s := h.m (q := (RX9, 32, yX7_init)) 4 rfl
theorem nwm_5 {s : State} (h : NW s) : va_Nw (.methodLinkNest RX9 39 yX0_init "GaugeWeekend") s := h.m (q := (RX9, 39, yX0_init)) 5 rfl
theorem nwm_6 {s : State} (h : NW s) : va_Nw (.methodLinkNest RX9 46 yX5_init "GaugeWeekend") s := h.m (q := (RX9, 46, yX5_init)) 6 rfl
theorem nwm_7 {s : State} (h : NW s) : va_Nw (.methodLinkNest RX9 53 yX8_init "GaugeWeekend") s := h.m (q := (RX9, 53, yX8_init)) 7 rfl
theorem nwm_8 {s : State} (h : NW s) : va_Nw (.methodLinkNest RX1 37 yX9_isPlace "GaugeWeekend") s := h.m (q := (RX1, 37, yX9_isPlace)) 8 rfl
theorem nwm_9 {s : State} (h : NW s) : va_Nw (.methodLinkNest RX1 41 yX9_isWithin "GaugeWeekend") s := h.m (q := (RX1, 41, yX9_isWithin)) 9 rfl
theorem nwm_10 {s : State} (h : NW s) : va_Nw (.methodLinkNest RX1 45 yX9_put "GaugeWeekend") s := h.m (q := (RX1, 45, yX9_put)) 10 rfl
theorem nwm_11 {s : State} (h : NW s) : va_Nw (.methodLinkNest RX2 45 yX9_at "GaugeWeekend") s := h.m (q := (RX2, 45, yX9_at)) 11 rfl
theorem nwm_12 {s : State} (h : NW s) : va_Nw (.methodLinkNest RX2 41 yX9_put "GaugeWeekend") s := h.m (q := (RX2, 41, yX9_put)) 12 rfl
theorem nwm_13 {s : State} (h : NW s) : va_Nw (.methodLinkNest RX1 49 yX9_at "GaugeWeekend") s := h.m (q := (RX1, 49, yX9_at)) 13 rfl
theorem nwm_14 {s : State} (h : NW s) : va_Nw (.methodLinkNest RX7 35 yX9_isWithin "GaugeWeekend") s := h.m (q := (RX7, 35, yX9_isWithin)) 14 rfl
theorem nwm_15 {s : State} (h : NW s) : va_Nw (.methodLinkNest RX6 25 yX9_put "GaugeWeekend") s := h.m (q := (RX6, 25, yX9_put)) 15 rfl
theorem nwm_16 {s : State} (h : NW s) : va_Nw (.methodLinkNest RX6 32 yX9_at "GaugeWeekend") s := h.m (q := (RX6, 32, yX9_at)) 16 rfl
theorem nwm_17 {s : State} (h : NW s) : va_Nw (.methodLinkNest RX6 66 yX9_isWithin "GaugeWeekend") s := h.m (q := (RX6, 66, yX9_isWithin)) 17 rfl
theorem nwm_18 {s : State} (h : NW s) : va_Nw (.methodLinkNest RX7 43 yX9_isPlace "GaugeWeekend") s := h.m (q := (RX7, 43, yX9_isPlace)) 18 rfl
theorem nwm_19 {s : State} (h : NW s) : va_Nw (.methodLinkNest RX7 47 yX9_isHour "GaugeWeekend") s := h.m (q := (RX7, 47, yX9_isHour)) 19 rfl
theorem nwm_20 {s : State} (h : NW s) : va_Nw (.methodLinkNest RX7 80 yX9_put "GaugeWeekend") s := h.m (q := (RX7, 80, yX9_put)) 20 rfl
theorem nwm_21 {s : State} (h : NW s) : va_Nw (.methodLinkNest RX7 39 yX9_at "GaugeWeekend") s := h.m (q := (RX7, 39, yX9_at)) 21 rfl
theorem nwm_22 {s : State} (h : NW s) : va_Nw (.methodLinkNest RX3 40 yX9_at "GaugeWeekend") s := h.m (q := (RX3, 40, yX9_at)) 22 rfl
theorem nwm_23 {s : State} (h : NW s) : va_Nw (.methodLinkNest RX5 38 yX9_isPlace "GaugeWeekend") s := h.m (q := (RX5, 38, yX9_isPlace)) 23 rfl
theorem nwm_24 {s : State} (h : NW s) : va_Nw (.methodLinkNest RX5 42 yX9_isWithin "GaugeWeekend") s := h.m (q := (RX5, 42, yX9_isWithin)) 24 rfl
theorem nwm_25 {s : State} (h : NW s) : va_Nw (.methodLinkNest RX5 46 yX9_at "GaugeWeekend") s := h.m (q := (RX5, 46, yX9_at)) 25 rfl
theorem nwm_26 {s : State} (h : NW s) : va_Nw (.methodLinkNest RX5 50 yX9_put "GaugeWeekend") s := h.m (q := (RX5, 50, yX9_put)) 26 rfl
theorem nwm_27 {s : State} (h : NW s) : va_Nw (.methodLinkNest RX0 25 yX9_isPlace "GaugeWeekend") s := h.m (q := (RX0, 25, yX9_isPlace)) 27 rfl
theorem nwm_28 {s : State} (h : NW s) : va_Nw (.methodLinkNest RX0 29 yX9_isHour "GaugeWeekend") s := h.m (q := (RX0, 29, yX9_isHour)) 28 rfl
theorem nwm_29 {s : State} (h : NW s) : va_Nw (.methodLinkNest RX0 32 yX9_put "GaugeWeekend") s := h.m (q := (RX0, 32, yX9_put)) 29 rfl
theorem nwm_30 {s : State} (h : NW s) : va_Nw (.methodLinkNest RX0 48 yX9_at "GaugeWeekend") s := h.m (q := (RX0, 48, yX9_at)) 30 rfl
theorem nwm_31 {s : State} (h : NW s) : va_Nw (.methodLinkNest RX5 54 yX9_isHour "GaugeWeekend") s := h.m (q := (RX5, 54, yX9_isHour)) 31 rfl
theorem nwm_32 {s : State} (h : NW s) : va_Nw (.methodLinkNest RX8 40 yX9_put "GaugeWeekend") s := h.m (q := (RX8, 40, yX9_put)) 32 rfl
theorem nwm_33 {s : State} (h : NW s) : va_Nw (.methodLinkNest RX8 44 yX9_isHour "GaugeWeekend") s := h.m (q := (RX8, 44, yX9_isHour)) 33 rfl
theorem nwm_34 {s : State} (h : NW s) : va_Nw (.methodLinkNest RX8 47 yX9_isWithin "GaugeWeekend") s := h.m (q := (RX8, 47, yX9_isWithin)) 34 rfl
theorem nwm_35 {s : State} (h : NW s) : va_Nw (.methodLinkNest RX8 52 yX9_at "GaugeWeekend") s := h.m (q := (RX8, 52, yX9_at)) 35 rfl
theorem nwf_0 {s : State} {args : Array Value} (h : NW s) : (Cond.fieldLinkNest RX3 49 RX1 "hours" "[I" "GaugeWeekend").before args s = true := h.f (q := (RX3, 49, RX1, "hours", "[I")) 0 rfl
theorem nwf_1 {s : State} {args : Array Value} (h : NW s) : (Cond.fieldLinkNest RX0 64 RX1 "many" "I" "GaugeWeekend").before args s = true := h.f (q := (RX0, 64, RX1, "many", "I")) 1 rfl
theorem nwf_2 {s : State} {args : Array Value} (h : NW s) : (Cond.fieldLinkNest RX7 110 RX1 "many" "I" "GaugeWeekend").before args s = true := h.f (q := (RX7, 110, RX1, "many", "I")) 2 rfl
theorem nwf_3 {s : State} {args : Array Value} (h : NW s) : (Cond.fieldLinkNest RX9 185 RX1 "many" "I" "GaugeWeekend").before args s = true := h.f (q := (RX9, 185, RX1, "many", "I")) 3 rfl
theorem nwf_4 {s : State} {args : Array Value} (h : NW s) : (Cond.fieldLinkNest RX3 52 RX2 "begins" "[I" "GaugeWeekend").before args s = true := h.f (q := (RX3, 52, RX2, "begins", "[I")) 4 rfl
theorem nwf_5 {s : State} {args : Array Value} (h : NW s) : (Cond.fieldLinkNest RX3 36 RX2 "done" "[I" "GaugeWeekend").before args s = true := h.f (q := (RX3, 36, RX2, "done", "[I")) 5 rfl
theorem nwf_6 {s : State} {args : Array Value} (h : NW s) : (Cond.fieldLinkNest RX9 124 RX2 "many" "I" "GaugeWeekend").before args s = true := h.f (q := (RX9, 124, RX2, "many", "I")) 6 rfl
theorem nwf_7 {s : State} {args : Array Value} (h : NW s) : (Cond.fieldLinkNest RX9 68 RX3 "lines" "LGaugeWeekend$Lines;" "GaugeWeekend").before args s = true := h.f (q := (RX9, 68, RX3, "lines", "LGaugeWeekend$Lines;")) 7 rfl
theorem nwf_8 {s : State} {args : Array Value} (h : NW s) : (Cond.fieldLinkNest RX0 58 RX3 "lines" "LGaugeWeekend$Lines;" "GaugeWeekend").before args s = true := h.f (q := (RX0, 58, RX3, "lines", "LGaugeWeekend$Lines;")) 8 rfl
theorem nwf_9 {s : State} {args : Array Value} (h : NW s) : (Cond.fieldLinkNest RX7 62 RX3 "lines" "LGaugeWeekend$Lines;" "GaugeWeekend").before args s = true := h.f (q := (RX7, 62, RX3, "lines", "LGaugeWeekend$Lines;")) 9 rfl
theorem nwf_10 {s : State} {args : Array Value} (h : NW s) : (Cond.fieldLinkNest RX9 121 RX3 "plan" "LGaugeWeekend$Plan;" "GaugeWeekend").before args s = true := h.f (q := (RX9, 121, RX3, "plan", "LGaugeWeekend$Plan;")) 10 rfl
theorem nwf_11 {s : State} {args : Array Value} (h : NW s) : (Cond.fieldLinkNest RX9 107 RX3 "draft" "LGaugeWeekend$Plan;" "GaugeWeekend").before args s = true := h.f (q := (RX9, 107, RX3, "draft", "LGaugeWeekend$Plan;")) 11 rfl
theorem nwf_12 {s : State} {args : Array Value} (h : NW s) : (Cond.fieldLinkNest RX9 101 RX6 "length" "I" "GaugeWeekend").before args s = true := h.f (q := (RX9, 101, RX6, "length", "I")) 12 rfl
theorem nwf_13 {s : State} {args : Array Value} (h : NW s) : (Cond.fieldLinkNest RX9 115 RX6 "tokenStart" "I" "GaugeWeekend").before args s = true := h.f (q := (RX9, 115, RX6, "tokenStart", "I")) 13 rfl
theorem nwf_14 {s : State} {args : Array Value} (h : NW s) : (Cond.fieldLinkNest RX5 63 RX0 "many" "I" "GaugeWeekend").before args s = true := h.f (q := (RX5, 63, RX0, "many", "I")) 14 rfl
theorem nwf_15 {s : State} {args : Array Value} (h : NW s) : (Cond.fieldLinkNest RX9 186 RX0 "many" "I" "GaugeWeekend").before args s = true := h.f (q := (RX9, 186, RX0, "many", "I")) 15 rfl
theorem nwf_16 {s : State} {args : Array Value} (h : NW s) : (Cond.fieldLinkNest RX9 187 RX8 "many" "I" "GaugeWeekend").before args s = true := h.f (q := (RX9, 187, RX8, "many", "I")) 16 rfl
theorem nwf_17 {s : State} {args : Array Value} (h : NW s) : (Cond.fieldLinkNest RX9 188 RX8 "manySeen" "I" "GaugeWeekend").before args s = true := h.f (q := (RX9, 188, RX8, "manySeen", "I")) 17 rfl
