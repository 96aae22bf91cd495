section
/-! THE ROOM, READ IN THE DEFINITIONS: where the law's call, still under way, has made more cells (or more fields and elements) than the statement allows, the statement is false: the heap never shrinks, and the call ends at most once -/
theorem rm_end {fl : List String} {file : ClassFile.Facts.File} {x : MethodName} {cd : ByteArray} {mL : Nat} {rt : Option ClassFile.FieldType} {World : Launch → Prop} {ts : List Cond} {room : Room}
    {calls rest Pre : Tables → Env → Array Value → State → Prop} {P : Tables → Env → Array Value → State → Outcome → State → Prop} {L : Array Value → State → List Loc} {K N : Nat}
    (h : ArmFor fl file x cd mL rt World ts room calls rest Pre (fun tb e a s o t => P tb e a s o t ∧ Framed s o t (L a s) K N))
    {l : Launch} {p : Program} {e : Env} {s : State} {m : MethodId} {args : Array Value} {below : List Frame}
    (hfl : l.flags = fl) (hl : Lists l file x cd mL rt ts room) (hW : World l) (ha : l.admits e) (hc : FairCas e.choices) (hk : FairClock e.choices)
    (hf : s.frames = Frame.invoking m args :: below) (hfit : argsFit s.vm m args = true) (hheap : heapFits s = true) (happ : (headSpec (Cond.code x cd mL rt :: ts) room).applies x e.platform s = true)
    (h1 : calls p.tables e args s) (h2 : rest p.tables e args s) (h3 : Pre p.tables e args s)
    {n : Nat} (hw : ∀ k, k ≤ n → Within (stepsAlone p.tables e k s) below) :
    (stepsAlone p.tables e n s).heap.size ≤ s.heap.size + K ∧ (stepsAlone p.tables e n s).slotsUsed ≤ s.slotsUsed + N := by
  obtain ⟨k, o, -, -, hend, -, -, -, hB⟩ := h l hfl hl hW p e ha hc hk s m args below hf hfit hheap happ ⟨h1, h2, h3⟩
  have hkn : n < k := by
    rcases Nat.lt_or_ge n k with q | q
    · exact q
    · exact absurd (hw k q) hend.not_within
  obtain ⟨j, rfl⟩ := Nat.exists_eq_add_of_lt hkn
  have hg := stepsAlone_heap_grows p.tables e (j + 1) (stepsAlone p.tables e n s)
  rw [← stepsAlone_add, ← Nat.add_assoc] at hg
  obtain ⟨-, -, b1, b2, b3, -⟩ := hB
  exact ⟨Nat.le_trans hg.1 b1, Nat.le_trans hg.2 (by
    have b2' : (stepsAlone p.tables e (n + j + 1) s).slotsUsed = _ := b2
    rw [b2']
    exact Nat.add_le_add_left b3 _)⟩
/-- so for this row -/
theorem rm_false (h : Claimed_1_1 ∨ Claimed_1_2) {l : Launch} {p : Program} {e : Env} {s : State} {m : MethodId} {args : Array Value} {below : List Frame}
    (hfl : l.flags = flags0) (hl : Lists l classFile x code maxLocals ret tables_1 room_1) (ha : l.admits e) (hc : FairCas e.choices) (hk : FairClock e.choices)
    (hf : s.frames = Frame.invoking m args :: below) (hfit : argsFit s.vm m args = true) (hheap : heapFits s = true) (happ : (headSpec (Cond.code x code maxLocals ret :: tables_1) room_1).applies x e.platform s = true)
    (h2 : rest_1 p.tables e args s) (h3 : Pre_1 p.tables e args s)
    {n : Nat} (hw : ∀ k, k ≤ n → Within (stepsAlone p.tables e k s) below) : ¬ (s.heap.size + 601024 < (stepsAlone p.tables e n s).heap.size ∨ s.slotsUsed + 7293034 < (stepsAlone p.tables e n s).slotsUsed) := by
  intro hq
  have hb : (stepsAlone p.tables e n s).heap.size ≤ s.heap.size + 601024 ∧ (stepsAlone p.tables e n s).slotsUsed ≤ s.slotsUsed + 7293034 := by
    rcases h with h | h
    · exact rm_end (P := postC limb_1_1) (L := fun a s => fieldLocs frame_1_writes a s ++ arrayLocs frame_1_arrays a s ++ staticLocs frame_1_statics s) h hfl hl trivial ha hc hk hf hfit hheap happ trivial h2 h3 hw
    · exact rm_end (P := postC limb_1_2) (L := fun a s => fieldLocs frame_1_writes a s ++ arrayLocs frame_1_arrays a s ++ staticLocs frame_1_statics s) h hfl hl trivial ha hc hk hf hfit hheap happ trivial h2 h3 hw
  omega
end
