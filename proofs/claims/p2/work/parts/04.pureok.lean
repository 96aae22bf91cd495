section RFP
variable {p : Program} {l : Launch} {e : Env} {R : Room} {s : State} {m : MethodId} {args : Array Value} {below : List Frame} {meth : Method} {c : Code} {H : Heap} {locs : List Loc} {cells slots : Nat} {Q : State → Prop} {lsA : Array Slot} {pc nL : Nat} {A : Nat → Nat} {cc : ByteArray}
theorem rf_31 : ∀ y : Nat, y < 32 → (Int32.ofNat y &&& 31) = Int32.ofNat y := by decide +kernel
set_option maxHeartbeats 2000000 in
/-- one instruction of these: the machine does what the numbers do -/
theorem rf_pure_ok (hx : p.tables.exec = Jvm.exec) (hb : c.code = cc) {i : Instr} {len w pc' : Nat} {ls st ls' st' : List Nat} (hd : decode cc pc = .ok (i, len)) (ho : rf_own i len w pc) (hL : rf_H A nL lsA ls) (h : rf_pure i len w pc ls st = some (pc', ls', st'))
    (k : ∀ lsA' : Array Slot, rf_H A nL lsA' ls' → W p l e R s m args below meth c H locs cells slots Q (F0 m pc' lsA' (st'.map (rf_v A)))) : W p l e R s m args below meth c H locs cells slots Q (F0 m pc lsA (st.map (rf_v A))) := by
  cases i with
  | iconst n =>
    obtain ⟨rfl, h2⟩ := ho
    simp only [rf_pure, Option.some.injEq, Prod.mk.injEq] at h
    obtain ⟨rfl, rfl, rfl⟩ := h
    refine lv_iconst hx hb hd h2 ?_
    rw [← rf_vi A w]
    exact k lsA hL
  | bipush n =>
    obtain ⟨rfl, h2⟩ := ho
    simp only [rf_pure, Option.some.injEq, Prod.mk.injEq] at h
    obtain ⟨rfl, rfl, rfl⟩ := h
    refine lv_bipush hx hb hd h2 ?_
    rw [← rf_vi A w]
    exact k lsA hL
  | sipush n =>
    obtain ⟨rfl, h2⟩ := ho
    simp only [rf_pure, Option.some.injEq, Prod.mk.injEq] at h
    obtain ⟨rfl, rfl, rfl⟩ := h
    refine lv_sipush hx hb hd h2 ?_
    rw [← rf_vi A w]
    exact k lsA hL
  | iload_n n =>
    obtain ⟨rfl, h2⟩ := ho
    simp only [rf_pure, Option.map_eq_some_iff, Prod.mk.injEq] at h
    obtain ⟨u, hu, rfl, rfl, rfl⟩ := h
    obtain ⟨v, hv, ht, rfl⟩ := rf_ld_ok hu
    have hg := hL.2.2.2 w v hv (by omega)
    rw [rf_v0 ht] at hg
    refine lv_iload_n hx hb hd h2 hg ?_
    rw [← rf_v0 (A := A) ht]
    exact k lsA hL
  | iload n =>
    obtain ⟨rfl, rfl⟩ := ho
    simp only [rf_pure, Option.map_eq_some_iff, Prod.mk.injEq] at h
    obtain ⟨u, hu, rfl, rfl, rfl⟩ := h
    obtain ⟨v, hv, ht, rfl⟩ := rf_ld_ok hu
    have hg := hL.2.2.2 n v hv (by omega)
    rw [rf_v0 ht] at hg
    refine lv_iload hx hb hd hg ?_
    rw [← rf_v0 (A := A) ht]
    exact k lsA hL
  | aload_n n =>
    obtain ⟨rfl, h2⟩ := ho
    simp only [rf_pure, Option.map_eq_some_iff, Prod.mk.injEq] at h
    obtain ⟨u, hu, rfl, rfl, rfl⟩ := h
    obtain ⟨v, hv, ht, rfl⟩ := rf_ld_ok hu
    have hg := hL.2.2.2 w v hv (by omega)
    rw [rf_v1 ht] at hg
    refine lv_aload_n hx hb hd h2 hg ?_
    rw [← rf_v1 (A := A) ht]
    exact k lsA hL
  | aload n =>
    obtain ⟨rfl, rfl⟩ := ho
    simp only [rf_pure, Option.map_eq_some_iff, Prod.mk.injEq] at h
    obtain ⟨u, hu, rfl, rfl, rfl⟩ := h
    obtain ⟨v, hv, ht, rfl⟩ := rf_ld_ok hu
    have hg := hL.2.2.2 n v hv (by omega)
    rw [rf_v1 ht] at hg
    refine lv_aload hx hb hd hg ?_
    rw [← rf_v1 (A := A) ht]
    exact k lsA hL
  | istore_n n =>
    obtain ⟨rfl, h2⟩ := ho
    simp only [rf_pure, Option.map_eq_some_iff, Prod.mk.injEq] at h
    obtain ⟨u, hu, rfl, rfl, rfl⟩ := h
    obtain ⟨v, rfl, ht, hi, hp, e1⟩ := rf_sd_ok hu
    rw [e1] at k
    rw [List.map_cons, rf_v0 ht]
    refine lv_istore_n hx hb hd h2 (rf_has hL) (Nat.lt_of_lt_of_le hi hL.2.2.1) rfl (fun lsA' hl => k lsA' (rf_back hL hp ?_))
    rw [rf_v0 ht]
    exact hl
  | istore n =>
    obtain ⟨rfl, rfl⟩ := ho
    simp only [rf_pure, Option.map_eq_some_iff, Prod.mk.injEq] at h
    obtain ⟨u, hu, rfl, rfl, rfl⟩ := h
    obtain ⟨v, rfl, ht, hi, hp, e1⟩ := rf_sd_ok hu
    rw [e1] at k
    rw [List.map_cons, rf_v0 ht]
    refine lv_istore hx hb hd (rf_has hL) (Nat.lt_of_lt_of_le hi hL.2.2.1) rfl (fun lsA' hl => k lsA' (rf_back hL hp ?_))
    rw [rf_v0 ht]
    exact hl
  | astore_n n =>
    obtain ⟨rfl, h2⟩ := ho
    simp only [rf_pure, Option.map_eq_some_iff, Prod.mk.injEq] at h
    obtain ⟨u, hu, rfl, rfl, rfl⟩ := h
    obtain ⟨v, rfl, ht, hi, hp, e1⟩ := rf_sd_ok hu
    rw [e1] at k
    rw [List.map_cons, rf_v1 ht]
    refine lv_astore_n hx hb hd h2 (rf_has hL) (Nat.lt_of_lt_of_le hi hL.2.2.1) rfl (fun lsA' hl => k lsA' (rf_back hL hp ?_))
    rw [rf_v1 ht]
    exact hl
  | astore n =>
    obtain ⟨rfl, rfl⟩ := ho
    simp only [rf_pure, Option.map_eq_some_iff, Prod.mk.injEq] at h
    obtain ⟨u, hu, rfl, rfl, rfl⟩ := h
    obtain ⟨v, rfl, ht, hi, hp, e1⟩ := rf_sd_ok hu
    rw [e1] at k
    rw [List.map_cons, rf_v1 ht]
    refine lv_astore hx hb hd (rf_has hL) (Nat.lt_of_lt_of_le hi hL.2.2.1) rfl (fun lsA' hl => k lsA' (rf_back hL hp ?_))
    rw [rf_v1 ht]
    exact hl
  | iinc j n =>
    obtain ⟨rfl, h2⟩ := ho
    simp only [rf_pure, rf_at_eq] at h
    cases hv : ls[j]? with
    | none => rw [hv] at h; cases h
    | some v =>
      rw [hv] at h
      simp only at h
      split at h
      · rename_i ht
        obtain ⟨u, hu, he⟩ := Option.map_eq_some_iff.mp h
        simp only [Prod.mk.injEq] at he
        obtain ⟨rfl, rfl, rfl⟩ := he
        obtain ⟨v2, hv2, -, hi, hp, e1⟩ := rf_sd_ok hu
        simp only [List.cons.injEq] at hv2
        obtain ⟨rfl, hs⟩ := hv2
        rw [e1, ← hs] at k
        obtain ⟨q, hq⟩ := List.getElem?_of_mem (rf_lv_mem (A := A) hv (by omega))
        rw [rf_v0 ht] at hq
        refine lv_iinc hx hb hd (rf_has hL) hq rfl (Nat.lt_of_lt_of_le hi hL.2.2.1) rfl (fun lsA' hl => k lsA' (rf_back hL hp ?_))
        rw [rf_vi, ← rf_add, ← h2]
        exact hl
      · cases h
  | iadd =>
    obtain rfl : len = 1 := ho
    simp only [rf_pure, Option.map_eq_some_iff, Prod.mk.injEq] at h
    obtain ⟨u, hu, rfl, rfl, rfl⟩ := h
    exact rf_bin (op := fun x y => x + y) hu (fun x y z hz => by cases hz; exact rf_add x y) (fun x y rest _ q => lv_iadd hx hb hd q) (k lsA hL)
  | isub =>
    obtain rfl : len = 1 := ho
    simp only [rf_pure, Option.map_eq_some_iff, Prod.mk.injEq] at h
    obtain ⟨u, hu, rfl, rfl, rfl⟩ := h
    exact rf_bin (op := fun x y => x - y) hu (fun x y z hz => by cases hz; exact rf_sub x y) (fun x y rest _ q => lv_isub hx hb hd q) (k lsA hL)
  | imul =>
    obtain rfl : len = 1 := ho
    simp only [rf_pure, Option.map_eq_some_iff, Prod.mk.injEq] at h
    obtain ⟨u, hu, rfl, rfl, rfl⟩ := h
    exact rf_bin (op := fun x y => x * y) hu (fun x y z hz => by cases hz; exact rf_mul x y) (fun x y rest _ q => lv_imul hx hb hd q) (k lsA hL)
  | iand =>
    obtain rfl : len = 1 := ho
    simp only [rf_pure, Option.map_eq_some_iff, Prod.mk.injEq] at h
    obtain ⟨u, hu, rfl, rfl, rfl⟩ := h
    exact rf_bin (op := fun x y => x &&& y) hu (fun x y z hz => by cases hz; exact rf_and x y) (fun x y rest _ q => lv_iand hx hb hd q) (k lsA hL)
  | ior =>
    obtain rfl : len = 1 := ho
    simp only [rf_pure, Option.map_eq_some_iff, Prod.mk.injEq] at h
    obtain ⟨u, hu, rfl, rfl, rfl⟩ := h
    exact rf_bin (op := fun x y => x ||| y) hu (fun x y z hz => by cases hz; exact rf_or x y) (fun x y rest _ q => lv_ior hx hb hd q) (k lsA hL)
  | ixor =>
    obtain rfl : len = 1 := ho
    simp only [rf_pure, Option.map_eq_some_iff, Prod.mk.injEq] at h
    obtain ⟨u, hu, rfl, rfl, rfl⟩ := h
    exact rf_bin (op := fun x y => x ^^^ y) hu (fun x y z hz => by cases hz; exact rf_xor x y) (fun x y rest _ q => lv_ixor hx hb hd q) (k lsA hL)
  | ishl =>
    obtain rfl : len = 1 := ho
    simp only [rf_pure, Option.map_eq_some_iff, Prod.mk.injEq] at h
    obtain ⟨u, hu, rfl, rfl, rfl⟩ := h
    refine rf_bin (op := fun x y => x <<< (y &&& 31)) hu (fun x y z hz => ?_) (fun x y rest _ q => lv_ishl hx hb hd q) (k lsA hL)
    split at hz
    · rename_i hy
      cases hz
      rw [rf_31 _ hy]
      exact rf_shl hy
    · cases hz
  | ishr =>
    obtain rfl : len = 1 := ho
    simp only [rf_pure, Option.map_eq_some_iff, Prod.mk.injEq] at h
    obtain ⟨u, hu, rfl, rfl, rfl⟩ := h
    refine rf_bin (op := fun x y => x >>> (y &&& 31)) hu (fun x y z hz => ?_) (fun x y rest _ q => lv_ishr hx hb hd q) (k lsA hL)
    split at hz
    · rename_i hy
      cases hz
      rw [rf_31 _ hy.2]
      exact rf_shr hy.1 hy.2
    · cases hz
  | iushr =>
    obtain rfl : len = 1 := ho
    simp only [rf_pure, Option.map_eq_some_iff, Prod.mk.injEq] at h
    obtain ⟨u, hu, rfl, rfl, rfl⟩ := h
    refine rf_bin (op := fun x y => (x.toUInt32 >>> (y.toUInt32 &&& Int32.toUInt32 31)).toInt32) hu (fun x y z hz => ?_) (fun x y rest _ q => lv_iushr hx hb hd rfl q) (k lsA hL)
    split at hz
    · rename_i hy
      cases hz
      exact rf_ushr hy.1 hy.2
    · cases hz
  | idiv =>
    obtain rfl : len = 1 := ho
    simp only [rf_pure, Option.map_eq_some_iff, Prod.mk.injEq] at h
    obtain ⟨u, hu, rfl, rfl, rfl⟩ := h
    refine rf_bin (op := fun x y => x / y) hu (fun x y z hz => ?_) (fun x y rest hz q => ?_) (k lsA hL)
    · split at hz
      · rename_i hy
        cases hz
        exact rf_div hy.1 hy.2.1 hy.2.2
      · cases hz
    · obtain ⟨z, hz⟩ := hz
      split at hz
      · rename_i hy
        exact lv_idiv hx hb hd (rf_ne0 hy.2.1 hy.2.2) q
      · cases hz
  | irem =>
    obtain rfl : len = 1 := ho
    simp only [rf_pure, Option.map_eq_some_iff, Prod.mk.injEq] at h
    obtain ⟨u, hu, rfl, rfl, rfl⟩ := h
    refine rf_bin (op := fun x y => x - x / y * y) hu (fun x y z hz => ?_) (fun x y rest hz q => ?_) (k lsA hL)
    · split at hz
      · rename_i hy
        cases hz
        exact rf_rem hy.1 hy.2.1 hy.2.2
      · cases hz
    · obtain ⟨z, hz⟩ := hz
      split at hz
      · rename_i hy
        exact lv_irem hx hb hd (rf_ne0 hy.2.1 hy.2.2) q
      · cases hz
  | dup =>
    obtain rfl : len = 1 := ho
    simp only [rf_pure] at h
    split at h
    · rename_i x r
      split at h
      · cases h
      · rename_i hc
        cases h
        exact lv_dup hx hb hd (by rw [rf_cat, if_neg hc]) (k lsA hL)
    · cases h
  | pop =>
    obtain rfl : len = 1 := ho
    simp only [rf_pure] at h
    split at h
    · rename_i x r
      split at h
      · cases h
      · rename_i hc
        cases h
        exact lv_pop hx hb hd (by rw [rf_cat, if_neg hc]) (k lsA hL)
    · cases h
  | dup_x1 =>
    obtain rfl : len = 1 := ho
    simp only [rf_pure] at h
    split at h
    · rename_i x y r
      split at h
      · cases h
      · rename_i hc
        cases h
        exact lv_dup_x1 hx hb hd (by rw [rf_cat, if_neg (fun q => hc (Or.inl q))]) (by rw [rf_cat, if_neg (fun q => hc (Or.inr q))]) (k lsA hL)
    · cases h
  | dup2 =>
    obtain rfl : len = 1 := ho
    simp only [rf_pure] at h
    split at h
    · rename_i x y r
      split at h
      · cases h
      · rename_i hc
        cases h
        exact lv_dup2_11 hx hb hd (by rw [rf_cat, if_neg (fun q => hc (Or.inl q))]) (by rw [rf_cat, if_neg (fun q => hc (Or.inr q))]) (k lsA hL)
    · cases h
  | ifCond o off =>
    obtain ⟨rfl, ht⟩ := ho
    cases o
    all_goals simp only [rf_pure, Option.map_eq_some_iff, Prod.mk.injEq] at h
    all_goals obtain ⟨⟨u, r⟩, hu, rfl, rfl, rfl⟩ := h
    · exact rf_cnd1 (P := fun x => x = 0) hu (fun x => by rw [decide_eq_true_iff, rf_z0, rf_inj]; simp) (fun x rest q1 q2 => lv_if_eq hx hb hd ht q1 q2) (k lsA hL)
    · exact rf_cnd1 (P := fun x => ¬ x = 0) hu (fun x => by rw [decide_eq_true_iff, rf_z0, rf_inj]; simp) (fun x rest q1 q2 => lv_if_ne hx hb hd ht q1 (fun z => q2 (fun y => y z))) (k lsA hL)
    · exact rf_cnd1 (P := fun x => x < 0) hu (fun x => by rw [decide_eq_true_iff, rf_z0, rf_lt]; rfl) (fun x rest q1 q2 => lv_if_lt hx hb hd ht q1 q2) (k lsA hL)
    · exact rf_cnd1 (P := fun x => 0 ≤ x) hu (fun x => by rw [decide_eq_true_iff, rf_z0, rf_le]; rfl) (fun x rest q1 q2 => lv_if_ge hx hb hd ht q1 q2) (k lsA hL)
    · exact rf_cnd1 (P := fun x => 0 < x) hu (fun x => by rw [decide_eq_true_iff, rf_z0, rf_lt]; rfl) (fun x rest q1 q2 => lv_if_gt hx hb hd ht q1 q2) (k lsA hL)
    · exact rf_cnd1 (P := fun x => x ≤ 0) hu (fun x => by rw [decide_eq_true_iff, rf_z0, rf_le]; rfl) (fun x rest q1 q2 => lv_if_le hx hb hd ht q1 q2) (k lsA hL)
  | if_icmp o off =>
    obtain ⟨rfl, ht⟩ := ho
    cases o
    all_goals simp only [rf_pure, Option.map_eq_some_iff, Prod.mk.injEq] at h
    all_goals obtain ⟨⟨u, r⟩, hu, rfl, rfl, rfl⟩ := h
    · exact rf_cnd2 (P := fun x y => x = y) hu (fun x y => by rw [decide_eq_true_iff, rf_inj]) (fun x y rest q1 q2 => lv_icmp_eq hx hb hd ht q1 q2) (k lsA hL)
    · exact rf_cnd2 (P := fun x y => ¬ x = y) hu (fun x y => by rw [decide_eq_true_iff, rf_inj]) (fun x y rest q1 q2 => lv_icmp_ne hx hb hd ht q1 (fun z => q2 (fun v => v z))) (k lsA hL)
    · exact rf_cnd2 (P := fun x y => x < y) hu (fun x y => by rw [decide_eq_true_iff, rf_lt]) (fun x y rest q1 q2 => lv_icmp_lt hx hb hd ht q1 q2) (k lsA hL)
    · exact rf_cnd2 (P := fun x y => y ≤ x) hu (fun x y => by rw [decide_eq_true_iff, rf_le]) (fun x y rest q1 q2 => lv_icmp_ge hx hb hd ht q1 q2) (k lsA hL)
    · exact rf_cnd2 (P := fun x y => y < x) hu (fun x y => by rw [decide_eq_true_iff, rf_lt]) (fun x y rest q1 q2 => lv_icmp_gt hx hb hd ht q1 q2) (k lsA hL)
    · exact rf_cnd2 (P := fun x y => x ≤ y) hu (fun x y => by rw [decide_eq_true_iff, rf_le]) (fun x y rest q1 q2 => lv_icmp_le hx hb hd ht q1 q2) (k lsA hL)
  | if_acmp o off =>
    obtain ⟨rfl, ht⟩ := ho
    cases o
    all_goals simp only [rf_pure] at h
    · split at h
      · rename_i x y r
        split at h
        · rename_i hc
          cases h
          obtain ⟨h1, rfl⟩ := hc
          rw [List.map_cons, List.map_cons, rf_v1 h1]
          exact lv_acmp_eq (rx := some (A (x / 4))) (ry := some (A (x / 4))) hx hb hd ht (fun _ => k lsA hL) (fun z => absurd rfl z)
        · cases h
      · cases h
    · split at h
      · rename_i x y r
        split at h
        · rename_i hc
          cases h
          obtain ⟨h1, rfl⟩ := hc
          rw [List.map_cons, List.map_cons, rf_v1 h1]
          exact lv_acmp_ne (rx := some (A (x / 4))) (ry := some (A (x / 4))) hx hb hd ht (fun z => absurd rfl z) (fun _ => k lsA hL)
        · cases h
      · cases h
  | goto off =>
    obtain ⟨rfl, ht⟩ := ho
    simp only [rf_pure, Option.some.injEq, Prod.mk.injEq] at h
    obtain ⟨rfl, rfl, rfl⟩ := h
    exact lv_goto hx hb hd ht (k lsA hL)
  | i2l =>
    obtain rfl : len = 1 := ho
    simp only [rf_pure] at h
    split at h
    · rename_i x r
      split at h
      · rename_i hc
        cases h
        have k0 := k lsA hL
        rw [List.map_cons, rf_vl] at k0
        rw [List.map_cons, rf_v0 hc]
        exact lv_i2l hx hb hd (rf_i2l _) k0
      · cases h
    · cases h
  | _ => simp [rf_pure] at h
end RFP
