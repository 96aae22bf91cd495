/-! the locals: what a list of numbers says of the frame's slots (6: nothing) -/
def rf_H (A : Nat → Nat) (nL : Nat) (lsA : Array Slot) (ls : List Nat) : Prop := lsA.size = nL ∧ lv_wf lsA ∧ ls.length ≤ nL ∧ ∀ (i v : Nat), ls[i]? = some v → v ≠ 6 → lsA[i]? = some (.val (rf_v A v))
def rf_lv (A : Nat → Nat) (ls : List Nat) : List (Nat × Value) := (List.range ls.length).filterMap fun i => (ls[i]?).bind fun v => if v = 6 then none else some (i, rf_v A v)
theorem rf_lv_mem {A : Nat → Nat} {ls : List Nat} {i v : Nat} (h : ls[i]? = some v) (h6 : v ≠ 6) : (i, rf_v A v) ∈ rf_lv A ls := by
  refine List.mem_filterMap.mpr ⟨i, List.mem_range.mpr (List.getElem?_eq_some_iff.mp h).1, ?_⟩
  rw [h]
  simp [h6]
theorem rf_has {A : Nat → Nat} {nL : Nat} {lsA : Array Slot} {ls : List Nat} (h : rf_H A nL lsA ls) : lv_has lsA nL (rf_lv A ls) := by
  refine ⟨h.1, h.2.1, fun q hq => ?_⟩
  obtain ⟨i, -, hi⟩ := List.mem_filterMap.mp hq
  cases hv : ls[i]? with
  | none => rw [hv] at hi; cases hi
  | some v =>
    rw [hv] at hi
    simp only [Option.bind_some] at hi
    split at hi
    · cases hi
    · rename_i h6
      cases hi
      exact h.2.2.2 i v hv h6
theorem rf_ld_ok {ls st u : List Nat} {i tag : Nat} (h : rf_ld ls st i tag = some u) : ∃ v, ls[i]? = some v ∧ v % 4 = tag ∧ u = v :: st := by
  unfold rf_ld at h
  rw [rf_at_eq] at h
  split at h
  · rename_i v hv
    split at h
    · rename_i ht
      cases h
      exact ⟨v, hv, ht, rfl⟩
    · cases h
  · cases h
theorem rf_sd_ok {ls st : List Nat} {i tag : Nat} {u : List Nat × List Nat} (h : rf_sd ls st i tag = some u) : ∃ v, st = v :: u.2 ∧ v % 4 = tag ∧ i < ls.length ∧ (∀ j w, i = j + 1 → ls[j]? = some w → w % 4 ≠ 3) ∧ u.1 = ls.set i v := by
  unfold rf_sd at h
  split at h
  · rename_i v r
    split at h
    · rename_i hc
      cases h
      refine ⟨v, rfl, hc.1, hc.2.1, fun j w hj hw => ?_, rf_put_eq _ _ _⟩
      have h3 := hc.2.2
      subst hj
      simp only [rf_pv, rf_at_eq, hw] at h3
      simpa using h3
    · cases h
  · cases h
theorem rf_back {A : Nat → Nat} {nL : Nat} {lsA lsA' : Array Slot} {ls : List Nat} {i v : Nat} (hL : rf_H A nL lsA ls) (hp : ∀ j w, i = j + 1 → ls[j]? = some w → w % 4 ≠ 3)
    (h : lv_has lsA' nL ((i, rf_v A v) :: (rf_lv A ls).filter (fun q => !(q.1 == i) && !(q.1 + 1 == i && q.2.category == 2)))) : rf_H A nL lsA' (ls.set i v) := by
  refine ⟨h.1, h.2.1, by rw [List.length_set]; exact hL.2.2.1, fun j w hw h6 => ?_⟩
  by_cases hj : j = i
  · subst hj
    have hl : j < ls.length := by
      have := (List.getElem?_eq_some_iff.mp hw).1
      rwa [List.length_set] at this
    rw [List.getElem?_set_self hl] at hw
    cases hw
    exact h.2.2 (j, rf_v A v) List.mem_cons_self
  · rw [List.getElem?_set_ne (Ne.symm hj)] at hw
    refine h.2.2 (j, rf_v A w) (List.mem_cons_of_mem _ (List.mem_filter.mpr ⟨rf_lv_mem hw h6, ?_⟩))
    by_cases hji : i = j + 1
    · have := hp j w hji hw
      simp [hj, rf_cat, this]
    · have h2 : ¬ j + 1 = i := fun q => hji q.symm
      simp [hj, h2]
theorem rf_i2l (x : Nat) : (Int32.ofNat x).toInt64 = Int64.ofNat (if x % rf_M < 2147483648 then x % rf_M else x % rf_M + 18446744069414584320) := by
  apply Int64.toInt_inj.mp
  rw [Int32.toInt_toInt64, rf_toInt]
  show _ = (Int64.ofNat _).toBitVec.toInt
  rw [BitVec.toInt_eq_toNat_cond, Int64.toBitVec_ofNat', BitVec.toNat_ofNat]
  unfold rf_M
  split <;> split <;> omega
section RFR
variable {p : Program} {l : Launch} {e : Env} {R : Room} {s : State} {m : MethodId} {args : Array Value} {below : List Frame} {meth : Method} {c : Code} {H : Heap} {locs : List Loc} {cells slots : Nat} {Q : State → Prop} {lsA : Array Slot} {pc pc2 pc' t n : Nat} {A : Nat → Nat} {st r' : List Nat}
theorem rf_bin {g : Nat → Nat → Option Nat} {op : Int32 → Int32 → Int32} {u : List Nat} (hu : rf_b2 st g = some u) (hop : ∀ x y z, g x y = some z → op (Int32.ofNat x) (Int32.ofNat y) = Int32.ofNat z)
    (hrow : ∀ (x y : Nat) (rest : List Value), (∃ z, g x y = some z) → W p l e R s m args below meth c H locs cells slots Q (F0 m pc2 lsA (.int (op (Int32.ofNat x) (Int32.ofNat y)) :: rest)) → W p l e R s m args below meth c H locs cells slots Q (F0 m pc lsA (.int (Int32.ofNat y) :: .int (Int32.ofNat x) :: rest)))
    (k : W p l e R s m args below meth c H locs cells slots Q (F0 m pc2 lsA (u.map (rf_v A)))) : W p l e R s m args below meth c H locs cells slots Q (F0 m pc lsA (st.map (rf_v A))) := by
  unfold rf_b2 at hu
  split at hu
  · rename_i b a r
    split at hu
    · rename_i hc
      obtain ⟨z, hz, rfl⟩ := Option.map_eq_some_iff.mp hu
      rw [List.map_cons, List.map_cons, rf_v0 hc.1, rf_v0 hc.2]
      refine hrow _ _ _ ⟨z, hz⟩ ?_
      rw [hop _ _ z hz, ← rf_vi A z]
      exact k
    · cases hu
  · cases hu
theorem rf_cnd1 {g : Nat → Bool} {P : Int32 → Prop} (hu : rf_c1 st g t n = some (pc', r')) (hP : ∀ x, g x = true ↔ P (Int32.ofNat x))
    (hrow : ∀ (x : Nat) (rest : List Value), (P (Int32.ofNat x) → W p l e R s m args below meth c H locs cells slots Q (F0 m t lsA rest)) → (¬ P (Int32.ofNat x) → W p l e R s m args below meth c H locs cells slots Q (F0 m n lsA rest)) → W p l e R s m args below meth c H locs cells slots Q (F0 m pc lsA (.int (Int32.ofNat x) :: rest)))
    (k : W p l e R s m args below meth c H locs cells slots Q (F0 m pc' lsA (r'.map (rf_v A)))) : W p l e R s m args below meth c H locs cells slots Q (F0 m pc lsA (st.map (rf_v A))) := by
  unfold rf_c1 at hu
  split at hu
  · rename_i a r
    split at hu
    · rename_i hc
      cases hu
      rw [List.map_cons, rf_v0 hc]
      refine hrow _ _ (fun h => ?_) (fun h => ?_)
      · rw [if_pos ((hP _).mpr h)] at k
        exact k
      · rw [if_neg (fun q => h ((hP _).mp q))] at k
        exact k
    · cases hu
  · cases hu
theorem rf_cnd2 {g : Nat → Nat → Bool} {P : Int32 → Int32 → Prop} (hu : rf_c2 st g t n = some (pc', r')) (hP : ∀ x y, g x y = true ↔ P (Int32.ofNat x) (Int32.ofNat y))
    (hrow : ∀ (x y : Nat) (rest : List Value), (P (Int32.ofNat x) (Int32.ofNat y) → W p l e R s m args below meth c H locs cells slots Q (F0 m t lsA rest)) → (¬ P (Int32.ofNat x) (Int32.ofNat y) → W p l e R s m args below meth c H locs cells slots Q (F0 m n lsA rest)) → W p l e R s m args below meth c H locs cells slots Q (F0 m pc lsA (.int (Int32.ofNat y) :: .int (Int32.ofNat x) :: rest)))
    (k : W p l e R s m args below meth c H locs cells slots Q (F0 m pc' lsA (r'.map (rf_v A)))) : W p l e R s m args below meth c H locs cells slots Q (F0 m pc lsA (st.map (rf_v A))) := by
  unfold rf_c2 at hu
  split at hu
  · rename_i b a r
    split at hu
    · rename_i hc
      cases hu
      rw [List.map_cons, List.map_cons, rf_v0 hc.1, rf_v0 hc.2]
      refine hrow _ _ _ (fun h => ?_) (fun h => ?_)
      · rw [if_pos ((hP _ _).mpr h)] at k
        exact k
      · rw [if_neg (fun q => h ((hP _ _).mp q))] at k
        exact k
    · cases hu
  · cases hu
end RFR
