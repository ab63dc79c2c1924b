/-! THE LAW: a call in a wide world -/
/-- the k-th cell, told in another way -/
def at9 : va_W → Nat → Option (Nat × va_E)
  | [], _ => none
  | x :: _, 0 => some x
  | _ :: w, n + 1 => at9 w n
theorem at9_get : ∀ (w : va_W) (n : Nat), at9 w n = w[n]?
  | [], n => by rw [at9]; rfl
  | x :: w, 0 => rfl
  | x :: w, n + 1 => by
    rw [at9, at9_get w n]
    rfl
def pkL : List Nat → va_W → List (Option (Nat × va_E))
  | [], _ => []
  | i :: is, w => w[i]? :: pkL is w
def pkR : List Nat → va_W → List (Option (Nat × va_E))
  | [], _ => []
  | i :: is, w => at9 w i :: pkR is w
theorem pk_same {w w' : va_W} : ∀ (is : List Nat), pkL is w' = pkR is w → ∀ k : Nat, k ∈ is → w'[k]? = w[k]?
  | [], _, k, hk => absurd hk List.not_mem_nil
  | i :: is, h, k, hk => by
    have h1 : w'[i]? :: pkL is w' = at9 w i :: pkR is w := h
    obtain ⟨h2, h3⟩ := List.cons.inj h1
    rcases List.mem_cons.mp hk with e | e
    · rw [e, h2, at9_get]
    · exact pk_same is h3 k e
theorem kset_world2 {E : KE} {A : Nat → Prop} {w wc w1 w' : va_W} {ads : List Nat} {H H1 : Heap} (hP : va_P (kD E) vwCl w H) (hD : va_D A w) (isC : List Nat) (hC : isC.map (fun i => w[i]?) = wc.map some) (had1 : w1.map (·.1) = ads) (had2 : wc.map (·.1) = ads) (isR : List Nat) (hC1 : isC.map (fun i => w'[i]?) = w1.map some) (hR : pkL isR w' = pkR isR w) {N : Nat} (hN : w'.length = N) (hcov : ∀ k : Nat, k < N → k ∈ isC ∨ k ∈ isR)
    (hk : ∀ q : Nat, q < H.size → ¬ va_A wc H.size q → H1[q]? = H[q]?) (hP1 : va_P (kD E) vwCl w1 H1) : va_P (kD E) vwCl w' H1 ∧ va_D A w' := by
  have had : w1.map (·.1) = wc.map (·.1) := had1.trans had2.symm
  have hl1 : isC.length = wc.length := by simpa using congrArg List.length hC
  have hl2 : w1.length = wc.length := by simpa using congrArg List.length had
  have hcell : ∀ (j i : Nat), isC[j]? = some i → ∃ q, wc[j]? = some q ∧ w[i]? = some q := by
    intro j i hj
    have h1 : (isC.map (fun i => w[i]?))[j]? = some (w[i]?) := by rw [List.getElem?_map, hj]; rfl
    rw [hC, List.getElem?_map] at h1
    cases hw : wc[j]? with
    | none => rw [hw] at h1; cases h1
    | some q => rw [hw] at h1; exact ⟨q, rfl, (Option.some.inj h1).symm⟩
  have hadr : ∀ (j : Nat) (q qc : Nat × va_E), w1[j]? = some q → wc[j]? = some qc → qc.1 = q.1 := by
    intro j q qc h1 h2
    have h3 : (w1.map (·.1))[j]? = some q.1 := by rw [List.getElem?_map, h1]; rfl
    rw [had, List.getElem?_map, h2] at h3
    exact Option.some.inj h3
  have hget : ∀ (k : Nat) (q : Nat × va_E), w'[k]? = some q → (∃ j : Nat, isC[j]? = some k ∧ w1[j]? = some q) ∨ (k ∉ isC ∧ w[k]? = some q) := by
    intro k q hq
    have hk2 : k < N := by
      rw [← hN]
      exact (List.getElem?_eq_some_iff.mp hq).1
    by_cases hin : k ∈ isC
    · obtain ⟨j, hj⟩ := List.getElem?_of_mem hin
      have h1 : (isC.map (fun i => w'[i]?))[j]? = some (w'[k]?) := by rw [List.getElem?_map, hj]; rfl
      rw [hC1, List.getElem?_map, hq] at h1
      cases hw : w1[j]? with
      | none => rw [hw] at h1; cases h1
      | some z =>
        rw [hw] at h1
        exact Or.inl ⟨j, hj, by rw [hw]; exact Option.some.inj h1⟩
    · exact Or.inr ⟨hin, (pk_same isR hR k ((hcov k hk2).resolve_left hin)).symm.trans hq⟩
  have hold : ∀ (k : Nat) (q : Nat × va_E), w'[k]? = some q → ∃ q0, w[k]? = some q0 ∧ q0.1 = q.1 := by
    intro k q hq
    rcases hget k q hq with ⟨j, h1, h2⟩ | ⟨-, h2⟩
    · obtain ⟨qc, h3, h4⟩ := hcell j k h1
      exact ⟨qc, h4, hadr j q qc h2 h3⟩
    · exact ⟨q, h2, rfl⟩
  refine ⟨fun k q hq => ?_, fun i j x y hx hy hxy => ?_, fun k q hq => ?_⟩
  · rcases hget k q hq with ⟨j, h1, h2⟩ | ⟨hn, h2⟩
    · exact hP1 j q h2
    · have hlt := (hP k q h2).lt
      refine (hP k q h2).kept (hk q.1 hlt (fun h => ?_))
      rcases h with ⟨k2, e, h⟩ | h
      · have hk2 : k2 < isC.length := by
          have := (List.getElem?_eq_some_iff.mp h).1
          omega
        obtain ⟨qc, h3, h4⟩ := hcell k2 isC[k2] (List.getElem?_eq_getElem hk2)
        rw [h] at h3
        obtain rfl := Option.some.inj h3
        have := hD.1 k isC[k2] q (q.1, e) h2 h4 rfl
        exact hn (by rw [this]; exact List.getElem_mem hk2)
      · omega
  · obtain ⟨x0, h1, h2⟩ := hold i x hx
    obtain ⟨y0, h3, h4⟩ := hold j y hy
    exact hD.1 i j x0 y0 h1 h3 (by rw [h2, h4, hxy])
  · obtain ⟨q0, h1, h2⟩ := hold k q hq
    rw [← h2]
    exact hD.2 k q0 h1
section KROWS9
variable {p : Program} {l : Launch} {e : Env} {R : Room} {s : State} {m : MethodId} {args : Array Value} {below : List Frame} {meth : Method} {c : Code} {H : Heap} {locs : List Loc} {cells slots : Nat} {Q : State → Prop}
variable {E : KE} {A : Nat → Prop} {w wc w1 w' : va_W} {ads : List Nat} {Ts ws ws' : List Cond} {cc bytes : ByteArray} {nL maxL index n pc : Nat} {own C : String} {y : MethodName} {ret : Option FieldType} {rm : Room} {As av rest st0 : List Value} {ls : Array Slot} {a : Array Value} {r : Int32} {b : Nat} {free : Nat → Prop}
theorem kci2 (hr : va_Run p l e R s m args below meth c H locs cells slots 0 0 (F0 m pc ls st0) rest (kQi E wc w1 r H.size a) (va_A wc H.size)) (hP : va_P (kD E) vwCl w H) (hD : va_D A w) (hS : va_S A s.heap H locs) (hA : ∀ q, s.heap.size ≤ q → A q) (isC : List Nat) (hC : isC.map (fun i => w[i]?) = wc.map some) (had1 : w1.map (·.1) = ads) (had2 : wc.map (·.1) = ads) (isR : List Nat) (hC1 : isC.map (fun i => w'[i]?) = w1.map some) (hR : pkL isR w' = pkR isR w) {N : Nat} (hN : w'.length = N) (hcov : ∀ k : Nat, k < N → k ∈ isC ∨ k ∈ isR)
    (kk : ∀ (H1 : Heap) (locs1 : List Loc), va_P (kD E) vwCl w' H1 → va_D A w' → va_S A s.heap H1 locs1 → W p l e R s m args below meth c H1 locs1 cells slots Q (F0 m (pc + 3) ls (.int r :: rest))) : W p l e R s m args below meth c H locs cells slots Q (F0 m pc ls st0) := by
  have hF := va_free hD hS hA isC hC
  refine va_calli hr hS (fun q _ h => hF q h) hF (fun r' u t H1 locs1 ht hvm hpost hB hsz hk hS1 => ?_)
  obtain rfl : r' = r := hpost
  have hB' : va_P (kD E) vwCl w1 H1 := ht ▸ hB
  obtain ⟨h1, h2⟩ := kset_world2 hP hD isC hC had1 had2 isR hC1 hR hN hcov hk hB'
  exact kk H1 locs1 h1 h2 hS1
variable {ci : Nat} {fs : List Value} {cq : vw_C}
theorem kciV2 (hM : KI l E y ws rm (.ref b :: As) wc w1 r) (S : CallFix p m c cc nL s args Ts own) (cw : CallW R s args own C index y bytes maxL ret ws rm 0 0 n) (hE : EV E A s) (hP : va_P (kD E) vwCl w H) (hD : va_D A w) (hS : va_S A s.heap H locs) (hA : ∀ q, s.heap.size ≤ q → A q) (isC : List Nat) (hnd : va_nd isC = true) (hC : isC.map (fun i => w[i]?) = wc.map some) (had1 : w1.map (·.1) = ads) (had2 : wc.map (·.1) = ads) (isR : List Nat) (hC1 : isC.map (fun i => w'[i]?) = w1.map some) (hR : pkL isR w' = pkR isR w) {N : Nat} (hN : w'.length = N) (hcov : ∀ k : Nat, k < N → k ∈ isC ∨ k ∈ isR) (hrv : wc[0]? = some (b, .inr (ci, fs))) (hcl : vwCl[ci]? = some cq) (hcq : cq.1 = C)
    (hn : As.length = n) (hsz : ls.size = nL) (hst : st0 = As.reverse ++ .ref b :: rest) (hrm : (rest.map fun v => v.category).sum ≤ 8) (hdg : decode cc pc = .ok (.invokevirtual index, 3)) (hf : cells + 0 ≤ R.cells ∧ slots + 0 ≤ R.slots)
    (kk : ∀ (H1 : Heap) (locs1 : List Loc), va_P (kD E) vwCl w' H1 → va_D A w' → va_S A s.heap H1 locs1 → W p l e R s m args below meth c H1 locs1 cells slots Q (F0 m (pc + 3) ls (.int r :: rest))) : W p l e R s m args below meth c H locs cells slots Q (F0 m pc ls st0) := by
  have hpre := kpre (av := .ref b :: As) hE hP hD hS hA isC hC hnd
  have hrc := va_recv hE.1 (show va_P (kD E) vwCl wc H from fun k q hq => by
    have h1 : (isC.map (fun i => w[i]?))[k]? = some (some q) := by rw [hC, List.getElem?_map, hq]; rfl
    rw [List.getElem?_map] at h1
    cases hi : isC[k]? with
    | none => rw [hi] at h1; cases h1
    | some i => rw [hi] at h1; exact hP i q (Option.some.inj h1)) hcl hrv
  rw [hcq] at hrc
  exact kci2 (va_runV S (hM H.size) cw ⟨kPc.blind, hrc, hpre⟩ rfl hn hsz hst (lv_room hrm) hdg hf) hP hD hS hA isC hC had1 had2 isR hC1 hR hN hcov kk
end KROWS9
theorem cov_of {N : Nat} {isC isR : List Nat} (h : (List.range N).all (fun k => isC.contains k || isR.contains k) = true) : ∀ k : Nat, k < N → k ∈ isC ∨ k ∈ isR := fun k hk => by
  have := List.all_eq_true.mp h k (List.mem_range.mpr hk)
  simpa using this
